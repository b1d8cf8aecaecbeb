set_option maxHeartbeats 4000000 in
set_option maxRecDepth 100000 in
/-- look where there is an inode volume -/
theorem c_Vt_look2 (l : Launch) (dC : Nat → ClassId) (dI : Nat → Nat → Nat) (v0 sz h0 t0 b0 e0 r0 d0 g0 u0 i0 fa fw : Nat) (fs he sta lf hru : Int32) (se : Int32) (h1 : Nat) (cB : ClassId) (sec pw : Int32) (n : Nat) (f : Nat → Int32) (h4 : 4 ≤ n) (hn : n < 2 ^ 31) (hit : in_there n f = 1) : Met l y_Vt_look (.code y_Vt_look b_Vt_look 1 (some .int) :: V_Vt) ({ frames := 3, cells := 0, slots := 0, locals := 61 }) (va_Pc [.ref v0] (fun U => U.heap.size = sz ∧ at_ (dC, dI) (fun _ => True) [(v0, .inr (11, [.ref h0, .ref t0, .ref b0, .ref e0, .ref r0, .ref d0, .ref g0, .ref u0, .ref i0, .ref fa, .ref fw, .int fs, .int he, .int sta, .int lf, .int hru])), (i0, .inr (6, [.ref h0, .int se])), (h0, .inr (0, [.int sec, .ref h1, .int pw])), (h1, .inl (cB, n, .inl f))] [(cB, .byte)] U)) (va_Qi (fun (r : Int32) (u : Unit) => r = 2) (fun (u : Unit) t => at_ (dC, dI) (va_A [(v0, .inr (11, [.ref h0, .ref t0, .ref b0, .ref e0, .ref r0, .ref d0, .ref g0, .ref u0, .ref i0, .ref fa, .ref fw, .int fs, .int he, .int sta, .int lf, .int hru])), (i0, .inr (6, [.ref h0, .int se])), (h0, .inr (0, [.int sec, .ref h1, .int pw])), (h1, .inl (cB, n, .inl f))] sz) [(v0, .inr (11, [.ref h0, .ref t0, .ref b0, .ref e0, .ref r0, .ref d0, .ref g0, .ref u0, .ref i0, .ref fa, .ref fw, .int fs, .int he, .int sta, .int lf, .int hru])), (i0, .inr (6, [.ref h0, .int se])), (h0, .inr (0, [.int sec, .ref h1, .int pw])), (h1, .inl (cB, n, .inl f))] [(cB, .byte)] t) (va_A [(v0, .inr (11, [.ref h0, .ref t0, .ref b0, .ref e0, .ref r0, .ref d0, .ref g0, .ref u0, .ref i0, .ref fa, .ref fw, .int fs, .int he, .int sta, .int lf, .int hru])), (i0, .inr (6, [.ref h0, .int se])), (h0, .inr (0, [.int sec, .ref h1, .int pw])), (h1, .inl (cB, n, .inl f))] sz)) 0 0 (va_A [(v0, .inr (11, [.ref h0, .ref t0, .ref b0, .ref e0, .ref r0, .ref d0, .ref g0, .ref u0, .ref i0, .ref fa, .ref fw, .int fs, .int he, .int sta, .int lf, .int hru])), (i0, .inr (6, [.ref h0, .int se])), (h0, .inr (0, [.int sec, .ref h1, .int pw])), (h1, .inl (cB, n, .inl f))] sz) := by
  refine Met.ofW (cc := b_Vt_look) (maxL := 1) (ret := (some .int)) (by decide) rfl ?_
  intro p e s m args below meth c s₁ B hml hv
  obtain ⟨rfl, hsz, hP, hK, hD0⟩ := hv
  have hx := B.exec
  have hb := B.bytes
  have hr := B.returns
  have hts0 := atoms_spec (ws := .code y_Vt_look b_Vt_look 1 (some .int) :: V_Vt) B.pre
  have hts : ∀ w ∈ V_Vt, w.before ([.ref v0] : List Value).toArray s = true := fun w h => hts0 w (List.mem_cons_of_mem _ h)
  have hown : s.vm.findClass R_Vt = some m.cls := findClass_of_methodNamed B.named
  have hlocks := B.notSynchronized
  subst hsz
  have hD := hD0.self (sz := s.heap.size)
  generalize hAe : va_A [(v0, .inr (11, [.ref h0, .ref t0, .ref b0, .ref e0, .ref r0, .ref d0, .ref g0, .ref u0, .ref i0, .ref fa, .ref fw, .int fs, .int he, .int sta, .int lf, .int hru])), (i0, .inr (6, [.ref h0, .int se])), (h0, .inr (0, [.int sec, .ref h1, .int pw])), (h1, .inl (cB, n, .inl f))] s.heap.size = A at hD ⊢
  have hA : ∀ q : Nat, s.heap.size ≤ q → A q := fun q h => by rw [← hAe]; exact Or.inr h
  have hS : va_S A s.heap s.heap [] := va_S.rf
  have hP : va_P (dC, dI) classes [(v0, .inr (11, [.ref h0, .ref t0, .ref b0, .ref e0, .ref r0, .ref d0, .ref g0, .ref u0, .ref i0, .ref fa, .ref fw, .int fs, .int he, .int sta, .int lf, .int hru])), (i0, .inr (6, [.ref h0, .int se])), (h0, .inr (0, [.int sec, .ref h1, .int pw])), (h1, .inl (cB, n, .inl f))] s.heap := hP
  have hK : va_K (dC, dI) classes [(cB, .byte)] s := hK
  have hl := lv_entry ([.ref v0]) (n := 1) (Nat.le_of_ble_eq_true rfl)
  rw [lg_entry_eq]
  generalize (lg_sl ([.ref v0]) ++ List.replicate (1 - (lg_sl ([.ref v0])).length) Slot.unset).toArray = ls at hl ⊢
  have hl : lv_has ls 1 [(0, .ref v0)] := hl
  refine lv_aload_n hx hb d_Vt_look_0 rfl (lv_at hl 0 rfl) ?_
  refine va_get (D := (dC, dI)) (ci := 11) (v := .ref i0) (C := R_Vt) (T := F_Vt) (N := 16) hx hb hts i_Vt hown hK hP 0 rfl rfl 8 (by decide) (hts _ (k_Vt_37)) (fun _ h9 => h9) rfl d_Vt_look_1 ?_
  have hPc := hP.sub (ws' := [(i0, .inr (6, [.ref h0, .int se])), (h0, .inr (0, [.int sec, .ref h1, .int pw])), (h1, .inl (cB, n, .inl f))]) [1, 2, 3] rfl
  have hDc := hD.sub (ws' := [(i0, .inr (6, [.ref h0, .int se])), (h0, .inr (0, [.int sec, .ref h1, .int pw])), (h1, .inl (cB, n, .inl f))]) [1, 2, 3] (by decide) rfl
  have hKc := hK.sub (tys' := [(cB, .byte)]) [0] rfl
  have hFc := va_free (wc := [(i0, .inr (6, [.ref h0, .int se])), (h0, .inr (0, [.int sec, .ref h1, .int pw])), (h1, .inl (cB, n, .inl f))]) hD hS hA [1, 2, 3] rfl
  refine va_calli (va_runV (As := []) (rest := []) ⟨hx, hb, hml, hown, hts⟩ (c_In_isThere l dC dI i0 h0 s.heap.size se h1 cB sec pw n f h4 hn) (cwV 0 hts (gwV good_Vt (k_Vt_71) (u_Vt_In _ k_In_7) (u_Vt_In _ k_In_8) (u_Vt_In _ k_In_0) (wcs (u_Vt_In _ k_In_9) u_Vt_In)) rfl rfl rfl (by decide +kernel) ⟨Nat.le_of_ble_eq_true rfl, Nat.le_of_ble_eq_true rfl⟩) (pv_of hPc hKc hDc (va_recv hKc hPc (ci := 6) (q0 := 0) rfl rfl)) rfl rfl hl.1 rfl (lv_room (Nat.le_of_ble_eq_true rfl)) d_Vt_look_4 ⟨by decide, by decide⟩) hS (fun q _ h => hFc q h) hFc (fun r_1 u t H1 locs ht hvm hw hB hz1 hk1 hS => ?_)
  rw [hit] at hw
  subst hw
  obtain ⟨hP1, hK1, hD1⟩ := hB
  rw [ht] at hP1
  have hP1 : va_P (dC, dI) classes [(i0, .inr (6, [.ref h0, .int se])), (h0, .inr (0, [.int sec, .ref h1, .int pw])), (h1, .inl (cB, n, .inl f))] H1 := hP1
  have hD1 : va_D _ [(i0, .inr (6, [.ref h0, .int se])), (h0, .inr (0, [.int sec, .ref h1, .int pw])), (h1, .inl (cB, n, .inl f))] := hD1
  obtain ⟨hP, hD⟩ := va_join (wr := [(v0, .inr (11, [.ref h0, .ref t0, .ref b0, .ref e0, .ref r0, .ref d0, .ref g0, .ref u0, .ref i0, .ref fa, .ref fw, .int fs, .int he, .int sta, .int lf, .int hru]))]) (w1 := [(i0, .inr (6, [.ref h0, .int se])), (h0, .inr (0, [.int sec, .ref h1, .int pw])), (h1, .inl (cB, n, .inl f))]) hP hD [1, 2, 3] [0] rfl rfl (by decide) (by decide) hk1 hFc hP1 hD1
  generalize H1 = H at hP hS ⊢
  have hP : va_P (dC, dI) classes [(v0, .inr (11, [.ref h0, .ref t0, .ref b0, .ref e0, .ref r0, .ref d0, .ref g0, .ref u0, .ref i0, .ref fa, .ref fw, .int fs, .int he, .int sta, .int lf, .int hru])), (i0, .inr (6, [.ref h0, .int se])), (h0, .inr (0, [.int sec, .ref h1, .int pw])), (h1, .inl (cB, n, .inl f))] H := hP
  have hD : va_D A [(v0, .inr (11, [.ref h0, .ref t0, .ref b0, .ref e0, .ref r0, .ref d0, .ref g0, .ref u0, .ref i0, .ref fa, .ref fw, .int fs, .int he, .int sta, .int lf, .int hru])), (i0, .inr (6, [.ref h0, .int se])), (h0, .inr (0, [.int sec, .ref h1, .int pw])), (h1, .inl (cB, n, .inl f))] := hD
  refine lv_if_eq (tgt := 12) hx hb d_Vt_look_7 (by decide) (fun c_2 => ?_) (fun c_2 => ?_)
  · exact absurd c_2 (by decide)
  · refine lv_iconst (v := 2) hx hb d_Vt_look_10 (by decide) ?_
    exact W.iret (v := 2) hx hb hr (fun t ht hW => ⟨⟨2, (), rfl, rfl, by rw [ht]; exact hP, va_K.moved hW.alike hK, hD⟩, hS.F ht⟩) hS.2.2 d_Vt_look_11
set_option maxHeartbeats 4000000 in
set_option maxRecDepth 100000 in
/-- kind of an inode volume -/
theorem c_Vt_kind2 (l : Launch) (dC : Nat → ClassId) (dI : Nat → Nat → Nat) (v0 sz h0 t0 b0 e0 r0 d0 g0 u0 i0 fa fw : Nat) (fs he sta lf hru : Int32) (se : Int32) (h1 : Nat) (cB : ClassId) (sec pw : Int32) (n : Nat) (f : Nat → Int32) (h4 : 4 ≤ n) (hn : n < 2 ^ 31) (hit : in_there n f = 1) : Met l y_Vt_kind (.code y_Vt_kind b_Vt_kind 1 (some .int) :: V_Vt) ({ frames := 4, cells := 0, slots := 0, locals := 81 }) (va_Pc [.ref v0] (fun U => U.heap.size = sz ∧ at_ (dC, dI) (fun _ => True) [(v0, .inr (11, [.ref h0, .ref t0, .ref b0, .ref e0, .ref r0, .ref d0, .ref g0, .ref u0, .ref i0, .ref fa, .ref fw, .int fs, .int he, .int sta, .int lf, .int hru])), (i0, .inr (6, [.ref h0, .int se])), (h0, .inr (0, [.int sec, .ref h1, .int pw])), (h1, .inl (cB, n, .inl f))] [(cB, .byte)] U)) (va_Qi (fun (r : Int32) (u : Unit) => r = 2) (fun (u : Unit) t => at_ (dC, dI) (va_A [(v0, .inr (11, [.ref h0, .ref t0, .ref b0, .ref e0, .ref r0, .ref d0, .ref g0, .ref u0, .ref i0, .ref fa, .ref fw, .int fs, .int he, .int sta, .int lf, .int hru])), (i0, .inr (6, [.ref h0, .int se])), (h0, .inr (0, [.int sec, .ref h1, .int pw])), (h1, .inl (cB, n, .inl f))] sz) [(v0, .inr (11, [.ref h0, .ref t0, .ref b0, .ref e0, .ref r0, .ref d0, .ref g0, .ref u0, .ref i0, .ref fa, .ref fw, .int fs, .int he, .int sta, .int lf, .int hru])), (i0, .inr (6, [.ref h0, .int se])), (h0, .inr (0, [.int sec, .ref h1, .int pw])), (h1, .inl (cB, n, .inl f))] [(cB, .byte)] t) (va_A [(v0, .inr (11, [.ref h0, .ref t0, .ref b0, .ref e0, .ref r0, .ref d0, .ref g0, .ref u0, .ref i0, .ref fa, .ref fw, .int fs, .int he, .int sta, .int lf, .int hru])), (i0, .inr (6, [.ref h0, .int se])), (h0, .inr (0, [.int sec, .ref h1, .int pw])), (h1, .inl (cB, n, .inl f))] sz)) 0 0 (va_A [(v0, .inr (11, [.ref h0, .ref t0, .ref b0, .ref e0, .ref r0, .ref d0, .ref g0, .ref u0, .ref i0, .ref fa, .ref fw, .int fs, .int he, .int sta, .int lf, .int hru])), (i0, .inr (6, [.ref h0, .int se])), (h0, .inr (0, [.int sec, .ref h1, .int pw])), (h1, .inl (cB, n, .inl f))] sz) := by
  refine Met.ofW (cc := b_Vt_kind) (maxL := 1) (ret := (some .int)) (by decide) rfl ?_
  intro p e s m args below meth c s₁ B hml hv
  obtain ⟨rfl, hsz, hP, hK, hD0⟩ := hv
  have hx := B.exec
  have hb := B.bytes
  have hr := B.returns
  have hts0 := atoms_spec (ws := .code y_Vt_kind b_Vt_kind 1 (some .int) :: V_Vt) B.pre
  have hts : ∀ w ∈ V_Vt, w.before ([.ref v0] : List Value).toArray s = true := fun w h => hts0 w (List.mem_cons_of_mem _ h)
  have hown : s.vm.findClass R_Vt = some m.cls := findClass_of_methodNamed B.named
  have hlocks := B.notSynchronized
  subst hsz
  have hD := hD0.self (sz := s.heap.size)
  generalize hAe : va_A [(v0, .inr (11, [.ref h0, .ref t0, .ref b0, .ref e0, .ref r0, .ref d0, .ref g0, .ref u0, .ref i0, .ref fa, .ref fw, .int fs, .int he, .int sta, .int lf, .int hru])), (i0, .inr (6, [.ref h0, .int se])), (h0, .inr (0, [.int sec, .ref h1, .int pw])), (h1, .inl (cB, n, .inl f))] s.heap.size = A at hD ⊢
  have hA : ∀ q : Nat, s.heap.size ≤ q → A q := fun q h => by rw [← hAe]; exact Or.inr h
  have hS : va_S A s.heap s.heap [] := va_S.rf
  have hP : va_P (dC, dI) classes [(v0, .inr (11, [.ref h0, .ref t0, .ref b0, .ref e0, .ref r0, .ref d0, .ref g0, .ref u0, .ref i0, .ref fa, .ref fw, .int fs, .int he, .int sta, .int lf, .int hru])), (i0, .inr (6, [.ref h0, .int se])), (h0, .inr (0, [.int sec, .ref h1, .int pw])), (h1, .inl (cB, n, .inl f))] s.heap := hP
  have hK : va_K (dC, dI) classes [(cB, .byte)] s := hK
  have hl := lv_entry ([.ref v0]) (n := 1) (Nat.le_of_ble_eq_true rfl)
  rw [lg_entry_eq]
  generalize (lg_sl ([.ref v0]) ++ List.replicate (1 - (lg_sl ([.ref v0])).length) Slot.unset).toArray = ls at hl ⊢
  have hl : lv_has ls 1 [(0, .ref v0)] := hl
  refine lv_aload_n hx hb d_Vt_kind_0 rfl (lv_at hl 0 rfl) ?_
  have hPc := hP.sub (ws' := [(v0, .inr (11, [.ref h0, .ref t0, .ref b0, .ref e0, .ref r0, .ref d0, .ref g0, .ref u0, .ref i0, .ref fa, .ref fw, .int fs, .int he, .int sta, .int lf, .int hru])), (i0, .inr (6, [.ref h0, .int se])), (h0, .inr (0, [.int sec, .ref h1, .int pw])), (h1, .inl (cB, n, .inl f))]) [0, 1, 2, 3] rfl
  have hDc := hD.sub (ws' := [(v0, .inr (11, [.ref h0, .ref t0, .ref b0, .ref e0, .ref r0, .ref d0, .ref g0, .ref u0, .ref i0, .ref fa, .ref fw, .int fs, .int he, .int sta, .int lf, .int hru])), (i0, .inr (6, [.ref h0, .int se])), (h0, .inr (0, [.int sec, .ref h1, .int pw])), (h1, .inl (cB, n, .inl f))]) [0, 1, 2, 3] (by decide) rfl
  have hKc := hK.sub (tys' := [(cB, .byte)]) [0] rfl
  have hFc := va_free (wc := [(v0, .inr (11, [.ref h0, .ref t0, .ref b0, .ref e0, .ref r0, .ref d0, .ref g0, .ref u0, .ref i0, .ref fa, .ref fw, .int fs, .int he, .int sta, .int lf, .int hru])), (i0, .inr (6, [.ref h0, .int se])), (h0, .inr (0, [.int sec, .ref h1, .int pw])), (h1, .inl (cB, n, .inl f))]) hD hS hA [0, 1, 2, 3] rfl
  refine va_calli (va_runV (As := []) (rest := []) ⟨hx, hb, hml, hown, hts⟩ (c_Vt_look2 l dC dI v0 s.heap.size h0 t0 b0 e0 r0 d0 g0 u0 i0 fa fw fs he sta lf hru se h1 cB sec pw n f h4 hn hit) (cwV 0 hts (gwV good_Vt (k_Vt_68) (k_Vt_69) (k_Vt_214) (k_Vt_0) (wcs (k_Vt_70) (fun _ h => h))) rfl rfl rfl (by decide +kernel) ⟨Nat.le_of_ble_eq_true rfl, Nat.le_of_ble_eq_true rfl⟩) (pv_of hPc hKc hDc (va_recv hKc hPc (ci := 11) (q0 := 0) rfl rfl)) rfl rfl hl.1 rfl (lv_room (Nat.le_of_ble_eq_true rfl)) d_Vt_kind_1 ⟨by decide, by decide⟩) hS (fun q _ h => hFc q h) hFc (fun r_1 u t H1 locs ht hvm hw hB hz1 hk1 hS => ?_)
  subst hw
  obtain ⟨hP1, hK1, hD1⟩ := hB
  rw [ht] at hP1
  have hP1 : va_P (dC, dI) classes [(v0, .inr (11, [.ref h0, .ref t0, .ref b0, .ref e0, .ref r0, .ref d0, .ref g0, .ref u0, .ref i0, .ref fa, .ref fw, .int fs, .int he, .int sta, .int lf, .int hru])), (i0, .inr (6, [.ref h0, .int se])), (h0, .inr (0, [.int sec, .ref h1, .int pw])), (h1, .inl (cB, n, .inl f))] H1 := hP1
  have hD1 : va_D _ [(v0, .inr (11, [.ref h0, .ref t0, .ref b0, .ref e0, .ref r0, .ref d0, .ref g0, .ref u0, .ref i0, .ref fa, .ref fw, .int fs, .int he, .int sta, .int lf, .int hru])), (i0, .inr (6, [.ref h0, .int se])), (h0, .inr (0, [.int sec, .ref h1, .int pw])), (h1, .inl (cB, n, .inl f))] := hD1
  obtain ⟨hP, hD⟩ := va_join (wr := []) (w1 := [(v0, .inr (11, [.ref h0, .ref t0, .ref b0, .ref e0, .ref r0, .ref d0, .ref g0, .ref u0, .ref i0, .ref fa, .ref fw, .int fs, .int he, .int sta, .int lf, .int hru])), (i0, .inr (6, [.ref h0, .int se])), (h0, .inr (0, [.int sec, .ref h1, .int pw])), (h1, .inl (cB, n, .inl f))]) hP hD [0, 1, 2, 3] [] rfl rfl (by decide) (by decide) hk1 hFc hP1 hD1
  generalize H1 = H at hP hS ⊢
  have hP : va_P (dC, dI) classes [(v0, .inr (11, [.ref h0, .ref t0, .ref b0, .ref e0, .ref r0, .ref d0, .ref g0, .ref u0, .ref i0, .ref fa, .ref fw, .int fs, .int he, .int sta, .int lf, .int hru])), (i0, .inr (6, [.ref h0, .int se])), (h0, .inr (0, [.int sec, .ref h1, .int pw])), (h1, .inl (cB, n, .inl f))] H := hP
  have hD : va_D A [(v0, .inr (11, [.ref h0, .ref t0, .ref b0, .ref e0, .ref r0, .ref d0, .ref g0, .ref u0, .ref i0, .ref fa, .ref fw, .int fs, .int he, .int sta, .int lf, .int hru])), (i0, .inr (6, [.ref h0, .int se])), (h0, .inr (0, [.int sec, .ref h1, .int pw])), (h1, .inl (cB, n, .inl f))] := hD
  exact W.iret (v := 2) hx hb hr (fun t ht hW => ⟨⟨2, (), rfl, rfl, by rw [ht]; exact hP, va_K.moved hW.alike hK, hD⟩, hS.F ht⟩) hS.2.2 d_Vt_kind_4
set_option maxHeartbeats 4000000 in
set_option maxRecDepth 100000 in
/-- fault of an inode volume -/
theorem c_Vt_fault2 (l : Launch) (dC : Nat → ClassId) (dI : Nat → Nat → Nat) (v0 sz h0 t0 b0 e0 r0 d0 g0 u0 i0 fa fw : Nat) (fs he sta lf hru : Int32) (se : Int32) (h1 : Nat) (cB : ClassId) (sec pw : Int32) (n : Nat) (f : Nat → Int32) (h4 : 4 ≤ n) (hn : n < 2 ^ 31) (hit : in_there n f = 1) : Met l y_Vt_fault (.code y_Vt_fault b_Vt_fault 1 (some .int) :: V_Vt) ({ frames := 4, cells := 0, slots := 0, locals := 81 }) (va_Pc [.ref v0] (fun U => U.heap.size = sz ∧ at_ (dC, dI) (fun _ => True) [(v0, .inr (11, [.ref h0, .ref t0, .ref b0, .ref e0, .ref r0, .ref d0, .ref g0, .ref u0, .ref i0, .ref fa, .ref fw, .int fs, .int he, .int sta, .int lf, .int hru])), (i0, .inr (6, [.ref h0, .int se])), (h0, .inr (0, [.int sec, .ref h1, .int pw])), (h1, .inl (cB, n, .inl f))] [(cB, .byte)] U)) (va_Qi (fun (r : Int32) (u : Unit) => r = 0) (fun (u : Unit) t => at_ (dC, dI) (va_A [(v0, .inr (11, [.ref h0, .ref t0, .ref b0, .ref e0, .ref r0, .ref d0, .ref g0, .ref u0, .ref i0, .ref fa, .ref fw, .int fs, .int he, .int sta, .int lf, .int hru])), (i0, .inr (6, [.ref h0, .int se])), (h0, .inr (0, [.int sec, .ref h1, .int pw])), (h1, .inl (cB, n, .inl f))] sz) [(v0, .inr (11, [.ref h0, .ref t0, .ref b0, .ref e0, .ref r0, .ref d0, .ref g0, .ref u0, .ref i0, .ref fa, .ref fw, .int fs, .int he, .int sta, .int lf, .int hru])), (i0, .inr (6, [.ref h0, .int se])), (h0, .inr (0, [.int sec, .ref h1, .int pw])), (h1, .inl (cB, n, .inl f))] [(cB, .byte)] t) (va_A [(v0, .inr (11, [.ref h0, .ref t0, .ref b0, .ref e0, .ref r0, .ref d0, .ref g0, .ref u0, .ref i0, .ref fa, .ref fw, .int fs, .int he, .int sta, .int lf, .int hru])), (i0, .inr (6, [.ref h0, .int se])), (h0, .inr (0, [.int sec, .ref h1, .int pw])), (h1, .inl (cB, n, .inl f))] sz)) 0 0 (va_A [(v0, .inr (11, [.ref h0, .ref t0, .ref b0, .ref e0, .ref r0, .ref d0, .ref g0, .ref u0, .ref i0, .ref fa, .ref fw, .int fs, .int he, .int sta, .int lf, .int hru])), (i0, .inr (6, [.ref h0, .int se])), (h0, .inr (0, [.int sec, .ref h1, .int pw])), (h1, .inl (cB, n, .inl f))] sz) := by
  refine Met.ofW (cc := b_Vt_fault) (maxL := 1) (ret := (some .int)) (by decide) rfl ?_
  intro p e s m args below meth c s₁ B hml hv
  obtain ⟨rfl, hsz, hP, hK, hD0⟩ := hv
  have hx := B.exec
  have hb := B.bytes
  have hr := B.returns
  have hts0 := atoms_spec (ws := .code y_Vt_fault b_Vt_fault 1 (some .int) :: V_Vt) B.pre
  have hts : ∀ w ∈ V_Vt, w.before ([.ref v0] : List Value).toArray s = true := fun w h => hts0 w (List.mem_cons_of_mem _ h)
  have hown : s.vm.findClass R_Vt = some m.cls := findClass_of_methodNamed B.named
  have hlocks := B.notSynchronized
  subst hsz
  have hD := hD0.self (sz := s.heap.size)
  generalize hAe : va_A [(v0, .inr (11, [.ref h0, .ref t0, .ref b0, .ref e0, .ref r0, .ref d0, .ref g0, .ref u0, .ref i0, .ref fa, .ref fw, .int fs, .int he, .int sta, .int lf, .int hru])), (i0, .inr (6, [.ref h0, .int se])), (h0, .inr (0, [.int sec, .ref h1, .int pw])), (h1, .inl (cB, n, .inl f))] s.heap.size = A at hD ⊢
  have hA : ∀ q : Nat, s.heap.size ≤ q → A q := fun q h => by rw [← hAe]; exact Or.inr h
  have hS : va_S A s.heap s.heap [] := va_S.rf
  have hP : va_P (dC, dI) classes [(v0, .inr (11, [.ref h0, .ref t0, .ref b0, .ref e0, .ref r0, .ref d0, .ref g0, .ref u0, .ref i0, .ref fa, .ref fw, .int fs, .int he, .int sta, .int lf, .int hru])), (i0, .inr (6, [.ref h0, .int se])), (h0, .inr (0, [.int sec, .ref h1, .int pw])), (h1, .inl (cB, n, .inl f))] s.heap := hP
  have hK : va_K (dC, dI) classes [(cB, .byte)] s := hK
  have hl := lv_entry ([.ref v0]) (n := 1) (Nat.le_of_ble_eq_true rfl)
  rw [lg_entry_eq]
  generalize (lg_sl ([.ref v0]) ++ List.replicate (1 - (lg_sl ([.ref v0])).length) Slot.unset).toArray = ls at hl ⊢
  have hl : lv_has ls 1 [(0, .ref v0)] := hl
  refine lv_aload_n hx hb d_Vt_fault_0 rfl (lv_at hl 0 rfl) ?_
  have hPc := hP.sub (ws' := [(v0, .inr (11, [.ref h0, .ref t0, .ref b0, .ref e0, .ref r0, .ref d0, .ref g0, .ref u0, .ref i0, .ref fa, .ref fw, .int fs, .int he, .int sta, .int lf, .int hru])), (i0, .inr (6, [.ref h0, .int se])), (h0, .inr (0, [.int sec, .ref h1, .int pw])), (h1, .inl (cB, n, .inl f))]) [0, 1, 2, 3] rfl
  have hDc := hD.sub (ws' := [(v0, .inr (11, [.ref h0, .ref t0, .ref b0, .ref e0, .ref r0, .ref d0, .ref g0, .ref u0, .ref i0, .ref fa, .ref fw, .int fs, .int he, .int sta, .int lf, .int hru])), (i0, .inr (6, [.ref h0, .int se])), (h0, .inr (0, [.int sec, .ref h1, .int pw])), (h1, .inl (cB, n, .inl f))]) [0, 1, 2, 3] (by decide) rfl
  have hKc := hK.sub (tys' := [(cB, .byte)]) [0] rfl
  have hFc := va_free (wc := [(v0, .inr (11, [.ref h0, .ref t0, .ref b0, .ref e0, .ref r0, .ref d0, .ref g0, .ref u0, .ref i0, .ref fa, .ref fw, .int fs, .int he, .int sta, .int lf, .int hru])), (i0, .inr (6, [.ref h0, .int se])), (h0, .inr (0, [.int sec, .ref h1, .int pw])), (h1, .inl (cB, n, .inl f))]) hD hS hA [0, 1, 2, 3] rfl
  refine va_calli (va_runV (As := []) (rest := []) ⟨hx, hb, hml, hown, hts⟩ (c_Vt_look2 l dC dI v0 s.heap.size h0 t0 b0 e0 r0 d0 g0 u0 i0 fa fw fs he sta lf hru se h1 cB sec pw n f h4 hn hit) (cwV 0 hts (gwV good_Vt (k_Vt_68) (k_Vt_69) (k_Vt_214) (k_Vt_0) (wcs (k_Vt_70) (fun _ h => h))) rfl rfl rfl (by decide +kernel) ⟨Nat.le_of_ble_eq_true rfl, Nat.le_of_ble_eq_true rfl⟩) (pv_of hPc hKc hDc (va_recv hKc hPc (ci := 11) (q0 := 0) rfl rfl)) rfl rfl hl.1 rfl (lv_room (Nat.le_of_ble_eq_true rfl)) d_Vt_fault_1 ⟨by decide, by decide⟩) hS (fun q _ h => hFc q h) hFc (fun r_1 u t H1 locs ht hvm hw hB hz1 hk1 hS => ?_)
  subst hw
  obtain ⟨hP1, hK1, hD1⟩ := hB
  rw [ht] at hP1
  have hP1 : va_P (dC, dI) classes [(v0, .inr (11, [.ref h0, .ref t0, .ref b0, .ref e0, .ref r0, .ref d0, .ref g0, .ref u0, .ref i0, .ref fa, .ref fw, .int fs, .int he, .int sta, .int lf, .int hru])), (i0, .inr (6, [.ref h0, .int se])), (h0, .inr (0, [.int sec, .ref h1, .int pw])), (h1, .inl (cB, n, .inl f))] H1 := hP1
  have hD1 : va_D _ [(v0, .inr (11, [.ref h0, .ref t0, .ref b0, .ref e0, .ref r0, .ref d0, .ref g0, .ref u0, .ref i0, .ref fa, .ref fw, .int fs, .int he, .int sta, .int lf, .int hru])), (i0, .inr (6, [.ref h0, .int se])), (h0, .inr (0, [.int sec, .ref h1, .int pw])), (h1, .inl (cB, n, .inl f))] := hD1
  obtain ⟨hP, hD⟩ := va_join (wr := []) (w1 := [(v0, .inr (11, [.ref h0, .ref t0, .ref b0, .ref e0, .ref r0, .ref d0, .ref g0, .ref u0, .ref i0, .ref fa, .ref fw, .int fs, .int he, .int sta, .int lf, .int hru])), (i0, .inr (6, [.ref h0, .int se])), (h0, .inr (0, [.int sec, .ref h1, .int pw])), (h1, .inl (cB, n, .inl f))]) hP hD [0, 1, 2, 3] [] rfl rfl (by decide) (by decide) hk1 hFc hP1 hD1
  generalize H1 = H at hP hS ⊢
  have hP : va_P (dC, dI) classes [(v0, .inr (11, [.ref h0, .ref t0, .ref b0, .ref e0, .ref r0, .ref d0, .ref g0, .ref u0, .ref i0, .ref fa, .ref fw, .int fs, .int he, .int sta, .int lf, .int hru])), (i0, .inr (6, [.ref h0, .int se])), (h0, .inr (0, [.int sec, .ref h1, .int pw])), (h1, .inl (cB, n, .inl f))] H := hP
  have hD : va_D A [(v0, .inr (11, [.ref h0, .ref t0, .ref b0, .ref e0, .ref r0, .ref d0, .ref g0, .ref u0, .ref i0, .ref fa, .ref fw, .int fs, .int he, .int sta, .int lf, .int hru])), (i0, .inr (6, [.ref h0, .int se])), (h0, .inr (0, [.int sec, .ref h1, .int pw])), (h1, .inl (cB, n, .inl f))] := hD
  refine lv_iconst (v := 2) hx hb d_Vt_fault_4 (by decide) ?_
  refine lv_icmp_ne (tgt := 12) hx hb d_Vt_fault_5 (by decide) (fun c_2 => ?_) (fun c_2 => ?_)
  · exact absurd c_2 (by decide)
  · refine lv_iconst (v := 0) hx hb d_Vt_fault_8 (by decide) ?_
    refine lv_goto (tgt := 16) hx hb d_Vt_fault_9 (by decide) ?_
    exact W.iret (v := 0) hx hb hr (fun t ht hW => ⟨⟨0, (), rfl, rfl, by rw [ht]; exact hP, va_K.moved hW.alike hK, hD⟩, hS.F ht⟩) hS.2.2 d_Vt_fault_16
set_option maxHeartbeats 4000000 in
set_option maxRecDepth 100000 in
/-- the tree is the inode volume's -/
theorem c_Vt_readsInodes2 (l : Launch) (dC : Nat → ClassId) (dI : Nat → Nat → Nat) (v0 sz h0 t0 b0 e0 r0 d0 g0 u0 i0 fa fw : Nat) (fs he sta lf hru : Int32) : Met l y_Vt_readsInodes (.code y_Vt_readsInodes b_Vt_readsInodes 2 (some .boolean) :: V_Vt) ({ frames := 0, cells := 0, slots := 0, locals := 0 }) (va_Pc [.ref v0, .int 2] (fun U => U.heap.size = sz ∧ at_ (dC, dI) (fun _ => True) [(v0, .inr (11, [.ref h0, .ref t0, .ref b0, .ref e0, .ref r0, .ref d0, .ref g0, .ref u0, .ref i0, .ref fa, .ref fw, .int fs, .int he, .int sta, .int lf, .int hru]))] [] U)) (va_Qi (fun (r : Int32) (u : Unit) => r = 1) (fun (u : Unit) t => at_ (dC, dI) (va_A [(v0, .inr (11, [.ref h0, .ref t0, .ref b0, .ref e0, .ref r0, .ref d0, .ref g0, .ref u0, .ref i0, .ref fa, .ref fw, .int fs, .int he, .int sta, .int lf, .int hru]))] sz) [(v0, .inr (11, [.ref h0, .ref t0, .ref b0, .ref e0, .ref r0, .ref d0, .ref g0, .ref u0, .ref i0, .ref fa, .ref fw, .int fs, .int he, .int sta, .int lf, .int hru]))] [] t) (va_A [(v0, .inr (11, [.ref h0, .ref t0, .ref b0, .ref e0, .ref r0, .ref d0, .ref g0, .ref u0, .ref i0, .ref fa, .ref fw, .int fs, .int he, .int sta, .int lf, .int hru]))] sz)) 0 0 (va_A [(v0, .inr (11, [.ref h0, .ref t0, .ref b0, .ref e0, .ref r0, .ref d0, .ref g0, .ref u0, .ref i0, .ref fa, .ref fw, .int fs, .int he, .int sta, .int lf, .int hru]))] sz) := by
  refine Met.ofW (cc := b_Vt_readsInodes) (maxL := 2) (ret := (some .boolean)) (by decide) rfl ?_
  intro p e s m args below meth c s₁ B hml hv
  obtain ⟨rfl, hsz, hP, hK, hD0⟩ := hv
  have hx := B.exec
  have hb := B.bytes
  have hr := B.returns
  have hts0 := atoms_spec (ws := .code y_Vt_readsInodes b_Vt_readsInodes 2 (some .boolean) :: V_Vt) B.pre
  have hts : ∀ w ∈ V_Vt, w.before ([.ref v0, .int 2] : List Value).toArray s = true := fun w h => hts0 w (List.mem_cons_of_mem _ h)
  have hown : s.vm.findClass R_Vt = some m.cls := findClass_of_methodNamed B.named
  have hlocks := B.notSynchronized
  subst hsz
  have hD := hD0.self (sz := s.heap.size)
  generalize hAe : va_A [(v0, .inr (11, [.ref h0, .ref t0, .ref b0, .ref e0, .ref r0, .ref d0, .ref g0, .ref u0, .ref i0, .ref fa, .ref fw, .int fs, .int he, .int sta, .int lf, .int hru]))] s.heap.size = A at hD ⊢
  have hA : ∀ q : Nat, s.heap.size ≤ q → A q := fun q h => by rw [← hAe]; exact Or.inr h
  have hS : va_S A s.heap s.heap [] := va_S.rf
  have hP : va_P (dC, dI) classes [(v0, .inr (11, [.ref h0, .ref t0, .ref b0, .ref e0, .ref r0, .ref d0, .ref g0, .ref u0, .ref i0, .ref fa, .ref fw, .int fs, .int he, .int sta, .int lf, .int hru]))] s.heap := hP
  have hK : va_K (dC, dI) classes [] s := hK
  have hl := lv_entry ([.ref v0, .int 2]) (n := 2) (Nat.le_of_ble_eq_true rfl)
  rw [lg_entry_eq]
  generalize (lg_sl ([.ref v0, .int 2]) ++ List.replicate (2 - (lg_sl ([.ref v0, .int 2])).length) Slot.unset).toArray = ls at hl ⊢
  have hl : lv_has ls 2 [(0, .ref v0), (1, .int 2)] := hl
  refine lv_iload_n hx hb d_Vt_readsInodes_0 rfl (lv_at hl 1 rfl) ?_
  refine lv_iconst (v := 2) hx hb d_Vt_readsInodes_1 (by decide) ?_
  refine lv_icmp_eq (tgt := 23) hx hb d_Vt_readsInodes_2 (by decide) (fun c_1 => ?_) (fun c_1 => ?_)
  · refine lv_iload_n hx hb d_Vt_readsInodes_23 rfl (lv_at hl 1 rfl) ?_
    refine lv_iconst (v := 2) hx hb d_Vt_readsInodes_24 (by decide) ?_
    refine lv_icmp_ne (tgt := 32) hx hb d_Vt_readsInodes_25 (by decide) (fun c_2 => ?_) (fun c_2 => ?_)
    · exact absurd c_2 (by decide)
    · refine lv_iconst (v := 1) hx hb d_Vt_readsInodes_28 (by decide) ?_
      refine lv_goto (tgt := 33) hx hb d_Vt_readsInodes_29 (by decide) ?_
      exact W.zret (v := 1) hx hb hr rfl (fun t ht hW => ⟨⟨1, (), rfl, rfl, by rw [ht]; exact hP, va_K.moved hW.alike hK, hD⟩, hS.F ht⟩) hS.2.2 d_Vt_readsInodes_33
  · exact absurd c_1 (by decide)
set_option maxHeartbeats 4000000 in
set_option maxRecDepth 100000 in
/-- items of an inode volume -/
theorem c_Vt_items2 (l : Launch) (dC : Nat → ClassId) (dI : Nat → Nat → Nat) (v0 sz h0 t0 b0 e0 r0 d0 g0 u0 i0 fa fw : Nat) (fs he sta lf hru : Int32) (se : Int32) (h1 : Nat) (cB : ClassId) (sec pw : Int32) (n : Nat) (f : Nat → Int32) (h4 : 4 ≤ n) (hn : n < 2 ^ 31) (hit : in_there n f = 1) : Met l y_Vt_items (.code y_Vt_items b_Vt_items 1 (some .int) :: V_Vt) ({ frames := 4, cells := 0, slots := 0, locals := 108 }) (va_Pc [.ref v0] (fun U => U.heap.size = sz ∧ at_ (dC, dI) (fun _ => True) [(v0, .inr (11, [.ref h0, .ref t0, .ref b0, .ref e0, .ref r0, .ref d0, .ref g0, .ref u0, .ref i0, .ref fa, .ref fw, .int fs, .int he, .int sta, .int lf, .int hru])), (i0, .inr (6, [.ref h0, .int se])), (h0, .inr (0, [.int sec, .ref h1, .int pw])), (h1, .inl (cB, n, .inl f))] [(cB, .byte)] U)) (va_Qi (fun (r : Int32) (u : Unit) => r = (in_find n f he (-1)).2 - 2) (fun (u : Unit) t => at_ (dC, dI) (va_A [(v0, .inr (11, [.ref h0, .ref t0, .ref b0, .ref e0, .ref r0, .ref d0, .ref g0, .ref u0, .ref i0, .ref fa, .ref fw, .int fs, .int he, .int sta, .int lf, .int hru])), (i0, .inr (6, [.ref h0, .int se])), (h0, .inr (0, [.int sec, .ref h1, .int pw])), (h1, .inl (cB, n, .inl f))] sz) [(v0, .inr (11, [.ref h0, .ref t0, .ref b0, .ref e0, .ref r0, .ref d0, .ref g0, .ref u0, .ref i0, .ref fa, .ref fw, .int fs, .int he, .int sta, .int lf, .int hru])), (i0, .inr (6, [.ref h0, .int ((in_find n f he (-1)).2)])), (h0, .inr (0, [.int sec, .ref h1, .int pw])), (h1, .inl (cB, n, .inl f))] [(cB, .byte)] t) (va_A [(v0, .inr (11, [.ref h0, .ref t0, .ref b0, .ref e0, .ref r0, .ref d0, .ref g0, .ref u0, .ref i0, .ref fa, .ref fw, .int fs, .int he, .int sta, .int lf, .int hru])), (i0, .inr (6, [.ref h0, .int se])), (h0, .inr (0, [.int sec, .ref h1, .int pw])), (h1, .inl (cB, n, .inl f))] sz)) 0 0 (va_A [(v0, .inr (11, [.ref h0, .ref t0, .ref b0, .ref e0, .ref r0, .ref d0, .ref g0, .ref u0, .ref i0, .ref fa, .ref fw, .int fs, .int he, .int sta, .int lf, .int hru])), (i0, .inr (6, [.ref h0, .int se])), (h0, .inr (0, [.int sec, .ref h1, .int pw])), (h1, .inl (cB, n, .inl f))] sz) := by
  refine Met.ofW (cc := b_Vt_items) (maxL := 1) (ret := (some .int)) (by decide) rfl ?_
  intro p e s m args below meth c s₁ B hml hv
  obtain ⟨rfl, hsz, hP, hK, hD0⟩ := hv
  have hx := B.exec
  have hb := B.bytes
  have hr := B.returns
  have hts0 := atoms_spec (ws := .code y_Vt_items b_Vt_items 1 (some .int) :: V_Vt) B.pre
  have hts : ∀ w ∈ V_Vt, w.before ([.ref v0] : List Value).toArray s = true := fun w h => hts0 w (List.mem_cons_of_mem _ h)
  have hown : s.vm.findClass R_Vt = some m.cls := findClass_of_methodNamed B.named
  have hlocks := B.notSynchronized
  subst hsz
  have hD := hD0.self (sz := s.heap.size)
  generalize hAe : va_A [(v0, .inr (11, [.ref h0, .ref t0, .ref b0, .ref e0, .ref r0, .ref d0, .ref g0, .ref u0, .ref i0, .ref fa, .ref fw, .int fs, .int he, .int sta, .int lf, .int hru])), (i0, .inr (6, [.ref h0, .int se])), (h0, .inr (0, [.int sec, .ref h1, .int pw])), (h1, .inl (cB, n, .inl f))] s.heap.size = A at hD ⊢
  have hA : ∀ q : Nat, s.heap.size ≤ q → A q := fun q h => by rw [← hAe]; exact Or.inr h
  have hS : va_S A s.heap s.heap [] := va_S.rf
  have hP : va_P (dC, dI) classes [(v0, .inr (11, [.ref h0, .ref t0, .ref b0, .ref e0, .ref r0, .ref d0, .ref g0, .ref u0, .ref i0, .ref fa, .ref fw, .int fs, .int he, .int sta, .int lf, .int hru])), (i0, .inr (6, [.ref h0, .int se])), (h0, .inr (0, [.int sec, .ref h1, .int pw])), (h1, .inl (cB, n, .inl f))] s.heap := hP
  have hK : va_K (dC, dI) classes [(cB, .byte)] s := hK
  have hl := lv_entry ([.ref v0]) (n := 1) (Nat.le_of_ble_eq_true rfl)
  rw [lg_entry_eq]
  generalize (lg_sl ([.ref v0]) ++ List.replicate (1 - (lg_sl ([.ref v0])).length) Slot.unset).toArray = ls at hl ⊢
  have hl : lv_has ls 1 [(0, .ref v0)] := hl
  refine lv_aload_n hx hb d_Vt_items_0 rfl (lv_at hl 0 rfl) ?_
  refine lv_aload_n hx hb d_Vt_items_1 rfl (lv_at hl 0 rfl) ?_
  have hPc := hP.sub (ws' := [(v0, .inr (11, [.ref h0, .ref t0, .ref b0, .ref e0, .ref r0, .ref d0, .ref g0, .ref u0, .ref i0, .ref fa, .ref fw, .int fs, .int he, .int sta, .int lf, .int hru])), (i0, .inr (6, [.ref h0, .int se])), (h0, .inr (0, [.int sec, .ref h1, .int pw])), (h1, .inl (cB, n, .inl f))]) [0, 1, 2, 3] rfl
  have hDc := hD.sub (ws' := [(v0, .inr (11, [.ref h0, .ref t0, .ref b0, .ref e0, .ref r0, .ref d0, .ref g0, .ref u0, .ref i0, .ref fa, .ref fw, .int fs, .int he, .int sta, .int lf, .int hru])), (i0, .inr (6, [.ref h0, .int se])), (h0, .inr (0, [.int sec, .ref h1, .int pw])), (h1, .inl (cB, n, .inl f))]) [0, 1, 2, 3] (by decide) rfl
  have hKc := hK.sub (tys' := [(cB, .byte)]) [0] rfl
  have hFc := va_free (wc := [(v0, .inr (11, [.ref h0, .ref t0, .ref b0, .ref e0, .ref r0, .ref d0, .ref g0, .ref u0, .ref i0, .ref fa, .ref fw, .int fs, .int he, .int sta, .int lf, .int hru])), (i0, .inr (6, [.ref h0, .int se])), (h0, .inr (0, [.int sec, .ref h1, .int pw])), (h1, .inl (cB, n, .inl f))]) hD hS hA [0, 1, 2, 3] rfl
  refine va_calli (va_runV (As := []) (rest := [.ref v0]) ⟨hx, hb, hml, hown, hts⟩ (c_Vt_look2 l dC dI v0 s.heap.size h0 t0 b0 e0 r0 d0 g0 u0 i0 fa fw fs he sta lf hru se h1 cB sec pw n f h4 hn hit) (cwV 0 hts (gwV good_Vt (k_Vt_68) (k_Vt_69) (k_Vt_214) (k_Vt_0) (wcs (k_Vt_70) (fun _ h => h))) rfl rfl rfl (by decide +kernel) ⟨Nat.le_of_ble_eq_true rfl, Nat.le_of_ble_eq_true rfl⟩) (pv_of hPc hKc hDc (va_recv hKc hPc (ci := 11) (q0 := 0) rfl rfl)) rfl rfl hl.1 rfl (lv_room (Nat.le_of_ble_eq_true rfl)) d_Vt_items_2 ⟨by decide, by decide⟩) hS (fun q _ h => hFc q h) hFc (fun r_1 u t H1 locs ht hvm hw hB hz1 hk1 hS => ?_)
  subst hw
  obtain ⟨hP1, hK1, hD1⟩ := hB
  rw [ht] at hP1
  have hP1 : va_P (dC, dI) classes [(v0, .inr (11, [.ref h0, .ref t0, .ref b0, .ref e0, .ref r0, .ref d0, .ref g0, .ref u0, .ref i0, .ref fa, .ref fw, .int fs, .int he, .int sta, .int lf, .int hru])), (i0, .inr (6, [.ref h0, .int se])), (h0, .inr (0, [.int sec, .ref h1, .int pw])), (h1, .inl (cB, n, .inl f))] H1 := hP1
  have hD1 : va_D _ [(v0, .inr (11, [.ref h0, .ref t0, .ref b0, .ref e0, .ref r0, .ref d0, .ref g0, .ref u0, .ref i0, .ref fa, .ref fw, .int fs, .int he, .int sta, .int lf, .int hru])), (i0, .inr (6, [.ref h0, .int se])), (h0, .inr (0, [.int sec, .ref h1, .int pw])), (h1, .inl (cB, n, .inl f))] := hD1
  obtain ⟨hP, hD⟩ := va_join (wr := []) (w1 := [(v0, .inr (11, [.ref h0, .ref t0, .ref b0, .ref e0, .ref r0, .ref d0, .ref g0, .ref u0, .ref i0, .ref fa, .ref fw, .int fs, .int he, .int sta, .int lf, .int hru])), (i0, .inr (6, [.ref h0, .int se])), (h0, .inr (0, [.int sec, .ref h1, .int pw])), (h1, .inl (cB, n, .inl f))]) hP hD [0, 1, 2, 3] [] rfl rfl (by decide) (by decide) hk1 hFc hP1 hD1
  generalize H1 = H at hP hS ⊢
  have hP : va_P (dC, dI) classes [(v0, .inr (11, [.ref h0, .ref t0, .ref b0, .ref e0, .ref r0, .ref d0, .ref g0, .ref u0, .ref i0, .ref fa, .ref fw, .int fs, .int he, .int sta, .int lf, .int hru])), (i0, .inr (6, [.ref h0, .int se])), (h0, .inr (0, [.int sec, .ref h1, .int pw])), (h1, .inl (cB, n, .inl f))] H := hP
  have hD : va_D A [(v0, .inr (11, [.ref h0, .ref t0, .ref b0, .ref e0, .ref r0, .ref d0, .ref g0, .ref u0, .ref i0, .ref fa, .ref fw, .int fs, .int he, .int sta, .int lf, .int hru])), (i0, .inr (6, [.ref h0, .int se])), (h0, .inr (0, [.int sec, .ref h1, .int pw])), (h1, .inl (cB, n, .inl f))] := hD
  have hPc := hP.sub (ws' := [(v0, .inr (11, [.ref h0, .ref t0, .ref b0, .ref e0, .ref r0, .ref d0, .ref g0, .ref u0, .ref i0, .ref fa, .ref fw, .int fs, .int he, .int sta, .int lf, .int hru]))]) [0] rfl
  have hDc := hD.sub (ws' := [(v0, .inr (11, [.ref h0, .ref t0, .ref b0, .ref e0, .ref r0, .ref d0, .ref g0, .ref u0, .ref i0, .ref fa, .ref fw, .int fs, .int he, .int sta, .int lf, .int hru]))]) [0] (by decide) rfl
  have hKc := hK.sub (tys' := []) [] rfl
  have hFc := va_free (wc := [(v0, .inr (11, [.ref h0, .ref t0, .ref b0, .ref e0, .ref r0, .ref d0, .ref g0, .ref u0, .ref i0, .ref fa, .ref fw, .int fs, .int he, .int sta, .int lf, .int hru]))]) hD hS hA [0] rfl
  refine va_calli (va_runV (As := [.int 2]) (rest := []) ⟨hx, hb, hml, hown, hts⟩ (c_Vt_readsInodes2 l dC dI v0 H.size h0 t0 b0 e0 r0 d0 g0 u0 i0 fa fw fs he sta lf hru) (cwV 1 hts (gwV good_Vt (k_Vt_111) (k_Vt_112) (k_Vt_215) (k_Vt_0) (wcs (k_Vt_113) (fun _ h => h))) rfl rfl rfl (by decide +kernel) ⟨Nat.le_of_ble_eq_true rfl, Nat.le_of_ble_eq_true rfl⟩) (pv_of hPc hKc hDc (va_recv hKc hPc (ci := 11) (q0 := 0) rfl rfl)) rfl rfl hl.1 rfl (lv_room (Nat.le_of_ble_eq_true rfl)) d_Vt_items_5 ⟨by decide, by decide⟩) hS (fun q _ h => hFc q h) hFc (fun r_2 u t H1 locs ht hvm hw hB hz1 hk1 hS => ?_)
  subst hw
  obtain ⟨hP1, hK1, hD1⟩ := hB
  rw [ht] at hP1
  have hP1 : va_P (dC, dI) classes [(v0, .inr (11, [.ref h0, .ref t0, .ref b0, .ref e0, .ref r0, .ref d0, .ref g0, .ref u0, .ref i0, .ref fa, .ref fw, .int fs, .int he, .int sta, .int lf, .int hru]))] H1 := hP1
  have hD1 : va_D _ [(v0, .inr (11, [.ref h0, .ref t0, .ref b0, .ref e0, .ref r0, .ref d0, .ref g0, .ref u0, .ref i0, .ref fa, .ref fw, .int fs, .int he, .int sta, .int lf, .int hru]))] := hD1
  obtain ⟨hP, hD⟩ := va_join (wr := [(i0, .inr (6, [.ref h0, .int se])), (h0, .inr (0, [.int sec, .ref h1, .int pw])), (h1, .inl (cB, n, .inl f))]) (w1 := [(v0, .inr (11, [.ref h0, .ref t0, .ref b0, .ref e0, .ref r0, .ref d0, .ref g0, .ref u0, .ref i0, .ref fa, .ref fw, .int fs, .int he, .int sta, .int lf, .int hru]))]) hP hD [0] [1, 2, 3] rfl rfl (by decide) (by decide) hk1 hFc hP1 hD1
  generalize H1 = H at hP hS ⊢
  have hP : va_P (dC, dI) classes [(i0, .inr (6, [.ref h0, .int se])), (h0, .inr (0, [.int sec, .ref h1, .int pw])), (h1, .inl (cB, n, .inl f)), (v0, .inr (11, [.ref h0, .ref t0, .ref b0, .ref e0, .ref r0, .ref d0, .ref g0, .ref u0, .ref i0, .ref fa, .ref fw, .int fs, .int he, .int sta, .int lf, .int hru]))] H := hP
  have hD : va_D A [(i0, .inr (6, [.ref h0, .int se])), (h0, .inr (0, [.int sec, .ref h1, .int pw])), (h1, .inl (cB, n, .inl f)), (v0, .inr (11, [.ref h0, .ref t0, .ref b0, .ref e0, .ref r0, .ref d0, .ref g0, .ref u0, .ref i0, .ref fa, .ref fw, .int fs, .int he, .int sta, .int lf, .int hru]))] := hD
  refine lv_if_eq (tgt := 25) hx hb d_Vt_items_8 (by decide) (fun c_3 => ?_) (fun c_3 => ?_)
  · exact absurd c_3 (by decide)
  · refine lv_aload_n hx hb d_Vt_items_11 rfl (lv_at hl 0 rfl) ?_
    refine va_get (D := (dC, dI)) (ci := 11) (v := .ref i0) (C := R_Vt) (T := F_Vt) (N := 16) hx hb hts i_Vt hown hK hP 3 rfl rfl 8 (by decide) (hts _ (k_Vt_37)) (fun _ h9 => h9) rfl d_Vt_items_12 ?_
    refine lv_aload_n hx hb d_Vt_items_15 rfl (lv_at hl 0 rfl) ?_
    refine va_get (D := (dC, dI)) (ci := 11) (v := .int he) (C := R_Vt) (T := F_Vt) (N := 16) hx hb hts i_Vt hown hK hP 3 rfl rfl 12 (by decide) (hts _ (k_Vt_41)) (fun _ h9 => h9) rfl d_Vt_items_16 ?_
    have hPc := hP.sub (ws' := [(i0, .inr (6, [.ref h0, .int se])), (h0, .inr (0, [.int sec, .ref h1, .int pw])), (h1, .inl (cB, n, .inl f))]) [0, 1, 2] rfl
    have hDc := hD.sub (ws' := [(i0, .inr (6, [.ref h0, .int se])), (h0, .inr (0, [.int sec, .ref h1, .int pw])), (h1, .inl (cB, n, .inl f))]) [0, 1, 2] (by decide) rfl
    have hKc := hK.sub (tys' := [(cB, .byte)]) [0] rfl
    have hFc := va_free (wc := [(i0, .inr (6, [.ref h0, .int se])), (h0, .inr (0, [.int sec, .ref h1, .int pw])), (h1, .inl (cB, n, .inl f))]) hD hS hA [0, 1, 2] rfl
    refine va_calli (va_runV (As := [.int he]) (rest := []) ⟨hx, hb, hml, hown, hts⟩ (c_In_countIn l dC dI i0 h0 H.size se h1 cB sec pw n f h4 hn he) (cwV 1 hts (gwV good_Vt (k_Vt_117) (u_Vt_In _ k_In_26) (u_Vt_In _ k_In_27) (u_Vt_In _ k_In_0) (wcs (u_Vt_In _ k_In_28) u_Vt_In)) rfl rfl rfl (by decide +kernel) ⟨Nat.le_of_ble_eq_true rfl, Nat.le_of_ble_eq_true rfl⟩) (pv_of hPc hKc hDc (va_recv hKc hPc (ci := 6) (q0 := 0) rfl rfl)) rfl rfl hl.1 rfl (lv_room (Nat.le_of_ble_eq_true rfl)) d_Vt_items_19 ⟨by decide, by decide⟩) hS (fun q _ h => hFc q h) hFc (fun r_4 u t H1 locs ht hvm hw hB hz1 hk1 hS => ?_)
    subst hw
    obtain ⟨hP1, hK1, hD1⟩ := hB
    rw [ht] at hP1
    have hP1 : va_P (dC, dI) classes [(i0, .inr (6, [.ref h0, .int ((in_find n f he (-1)).2)])), (h0, .inr (0, [.int sec, .ref h1, .int pw])), (h1, .inl (cB, n, .inl f))] H1 := hP1
    have hD1 : va_D _ [(i0, .inr (6, [.ref h0, .int ((in_find n f he (-1)).2)])), (h0, .inr (0, [.int sec, .ref h1, .int pw])), (h1, .inl (cB, n, .inl f))] := hD1
    obtain ⟨hP, hD⟩ := va_join (wr := [(v0, .inr (11, [.ref h0, .ref t0, .ref b0, .ref e0, .ref r0, .ref d0, .ref g0, .ref u0, .ref i0, .ref fa, .ref fw, .int fs, .int he, .int sta, .int lf, .int hru]))]) (w1 := [(i0, .inr (6, [.ref h0, .int ((in_find n f he (-1)).2)])), (h0, .inr (0, [.int sec, .ref h1, .int pw])), (h1, .inl (cB, n, .inl f))]) hP hD [0, 1, 2] [3] rfl rfl (by decide) (by decide) hk1 hFc hP1 hD1
    generalize H1 = H at hP hS ⊢
    have hP : va_P (dC, dI) classes [(v0, .inr (11, [.ref h0, .ref t0, .ref b0, .ref e0, .ref r0, .ref d0, .ref g0, .ref u0, .ref i0, .ref fa, .ref fw, .int fs, .int he, .int sta, .int lf, .int hru])), (i0, .inr (6, [.ref h0, .int ((in_find n f he (-1)).2)])), (h0, .inr (0, [.int sec, .ref h1, .int pw])), (h1, .inl (cB, n, .inl f))] H := hP
    have hD : va_D A [(v0, .inr (11, [.ref h0, .ref t0, .ref b0, .ref e0, .ref r0, .ref d0, .ref g0, .ref u0, .ref i0, .ref fa, .ref fw, .int fs, .int he, .int sta, .int lf, .int hru])), (i0, .inr (6, [.ref h0, .int ((in_find n f he (-1)).2)])), (h0, .inr (0, [.int sec, .ref h1, .int pw])), (h1, .inl (cB, n, .inl f))] := hD
    refine lv_goto (tgt := 36) hx hb d_Vt_items_22 (by decide) ?_
    exact W.iret (v := ((in_find n f he (-1)).2 - 2)) hx hb hr (fun t ht hW => ⟨⟨((in_find n f he (-1)).2 - 2), (), rfl, rfl, by rw [ht]; exact hP, va_K.moved hW.alike hK, hD⟩, hS.F ht⟩) hS.2.2 d_Vt_items_36
def vt_up2 (n : Nat) (f : Nat → Int32) (he se : Int32) : Int32 × Int32 × Int32 := if he = 0 then (0, he, se) else (1, in_par n f he, (in_find n f he 1).2)
set_option maxHeartbeats 4000000 in
set_option maxRecDepth 100000 in
/-- up in an inode volume -/
theorem c_Vt_up2 (l : Launch) (dC : Nat → ClassId) (dI : Nat → Nat → Nat) (v0 sz h0 t0 b0 e0 r0 d0 g0 u0 i0 fa fw : Nat) (fs he sta lf hru : Int32) (se : Int32) (h1 : Nat) (cB : ClassId) (sec pw : Int32) (n : Nat) (f : Nat → Int32) (h4 : 4 ≤ n) (hn : n < 2 ^ 31) (hit : in_there n f = 1) : Met l y_Vt_up (.code y_Vt_up b_Vt_up 2 (some .boolean) :: V_Vt) ({ frames := 4, cells := 0, slots := 0, locals := 109 }) (va_Pc [.ref v0] (fun U => U.heap.size = sz ∧ at_ (dC, dI) (fun _ => True) [(v0, .inr (11, [.ref h0, .ref t0, .ref b0, .ref e0, .ref r0, .ref d0, .ref g0, .ref u0, .ref i0, .ref fa, .ref fw, .int fs, .int he, .int sta, .int lf, .int hru])), (i0, .inr (6, [.ref h0, .int se])), (h0, .inr (0, [.int sec, .ref h1, .int pw])), (h1, .inl (cB, n, .inl f))] [(cB, .byte)] U)) (va_Qi (fun (r : Int32) (u : Int32 × Int32) => (r, u) = vt_up2 n f he se) (fun (u : Int32 × Int32) t => at_ (dC, dI) (va_A [(v0, .inr (11, [.ref h0, .ref t0, .ref b0, .ref e0, .ref r0, .ref d0, .ref g0, .ref u0, .ref i0, .ref fa, .ref fw, .int fs, .int he, .int sta, .int lf, .int hru])), (i0, .inr (6, [.ref h0, .int se])), (h0, .inr (0, [.int sec, .ref h1, .int pw])), (h1, .inl (cB, n, .inl f))] sz) [(v0, .inr (11, [.ref h0, .ref t0, .ref b0, .ref e0, .ref r0, .ref d0, .ref g0, .ref u0, .ref i0, .ref fa, .ref fw, .int fs, .int u.1, .int sta, .int lf, .int hru])), (i0, .inr (6, [.ref h0, .int u.2])), (h0, .inr (0, [.int sec, .ref h1, .int pw])), (h1, .inl (cB, n, .inl f))] [(cB, .byte)] t) (va_A [(v0, .inr (11, [.ref h0, .ref t0, .ref b0, .ref e0, .ref r0, .ref d0, .ref g0, .ref u0, .ref i0, .ref fa, .ref fw, .int fs, .int he, .int sta, .int lf, .int hru])), (i0, .inr (6, [.ref h0, .int se])), (h0, .inr (0, [.int sec, .ref h1, .int pw])), (h1, .inl (cB, n, .inl f))] sz)) 0 0 (va_A [(v0, .inr (11, [.ref h0, .ref t0, .ref b0, .ref e0, .ref r0, .ref d0, .ref g0, .ref u0, .ref i0, .ref fa, .ref fw, .int fs, .int he, .int sta, .int lf, .int hru])), (i0, .inr (6, [.ref h0, .int se])), (h0, .inr (0, [.int sec, .ref h1, .int pw])), (h1, .inl (cB, n, .inl f))] sz) := by
  refine Met.ofW (cc := b_Vt_up) (maxL := 2) (ret := (some .boolean)) (by decide) rfl ?_
  intro p e s m args below meth c s₁ B hml hv
  obtain ⟨rfl, hsz, hP, hK, hD0⟩ := hv
  have hx := B.exec
  have hb := B.bytes
  have hr := B.returns
  have hts0 := atoms_spec (ws := .code y_Vt_up b_Vt_up 2 (some .boolean) :: V_Vt) B.pre
  have hts : ∀ w ∈ V_Vt, w.before ([.ref v0] : List Value).toArray s = true := fun w h => hts0 w (List.mem_cons_of_mem _ h)
  have hown : s.vm.findClass R_Vt = some m.cls := findClass_of_methodNamed B.named
  have hlocks := B.notSynchronized
  subst hsz
  have hD := hD0.self (sz := s.heap.size)
  generalize hAe : va_A [(v0, .inr (11, [.ref h0, .ref t0, .ref b0, .ref e0, .ref r0, .ref d0, .ref g0, .ref u0, .ref i0, .ref fa, .ref fw, .int fs, .int he, .int sta, .int lf, .int hru])), (i0, .inr (6, [.ref h0, .int se])), (h0, .inr (0, [.int sec, .ref h1, .int pw])), (h1, .inl (cB, n, .inl f))] s.heap.size = A at hD ⊢
  have hA : ∀ q : Nat, s.heap.size ≤ q → A q := fun q h => by rw [← hAe]; exact Or.inr h
  have hS : va_S A s.heap s.heap [] := va_S.rf
  have hP : va_P (dC, dI) classes [(v0, .inr (11, [.ref h0, .ref t0, .ref b0, .ref e0, .ref r0, .ref d0, .ref g0, .ref u0, .ref i0, .ref fa, .ref fw, .int fs, .int he, .int sta, .int lf, .int hru])), (i0, .inr (6, [.ref h0, .int se])), (h0, .inr (0, [.int sec, .ref h1, .int pw])), (h1, .inl (cB, n, .inl f))] s.heap := hP
  have hK : va_K (dC, dI) classes [(cB, .byte)] s := hK
  have hl := lv_entry ([.ref v0]) (n := 2) (Nat.le_of_ble_eq_true rfl)
  rw [lg_entry_eq]
  generalize (lg_sl ([.ref v0]) ++ List.replicate (2 - (lg_sl ([.ref v0])).length) Slot.unset).toArray = ls at hl ⊢
  have hl : lv_has ls 2 [(0, .ref v0)] := hl
  refine lv_aload_n hx hb d_Vt_up_0 rfl (lv_at hl 0 rfl) ?_
  refine lv_aload_n hx hb d_Vt_up_1 rfl (lv_at hl 0 rfl) ?_
  have hPc := hP.sub (ws' := [(v0, .inr (11, [.ref h0, .ref t0, .ref b0, .ref e0, .ref r0, .ref d0, .ref g0, .ref u0, .ref i0, .ref fa, .ref fw, .int fs, .int he, .int sta, .int lf, .int hru])), (i0, .inr (6, [.ref h0, .int se])), (h0, .inr (0, [.int sec, .ref h1, .int pw])), (h1, .inl (cB, n, .inl f))]) [0, 1, 2, 3] rfl
  have hDc := hD.sub (ws' := [(v0, .inr (11, [.ref h0, .ref t0, .ref b0, .ref e0, .ref r0, .ref d0, .ref g0, .ref u0, .ref i0, .ref fa, .ref fw, .int fs, .int he, .int sta, .int lf, .int hru])), (i0, .inr (6, [.ref h0, .int se])), (h0, .inr (0, [.int sec, .ref h1, .int pw])), (h1, .inl (cB, n, .inl f))]) [0, 1, 2, 3] (by decide) rfl
  have hKc := hK.sub (tys' := [(cB, .byte)]) [0] rfl
  have hFc := va_free (wc := [(v0, .inr (11, [.ref h0, .ref t0, .ref b0, .ref e0, .ref r0, .ref d0, .ref g0, .ref u0, .ref i0, .ref fa, .ref fw, .int fs, .int he, .int sta, .int lf, .int hru])), (i0, .inr (6, [.ref h0, .int se])), (h0, .inr (0, [.int sec, .ref h1, .int pw])), (h1, .inl (cB, n, .inl f))]) hD hS hA [0, 1, 2, 3] rfl
  refine va_calli (va_runV (As := []) (rest := [.ref v0]) ⟨hx, hb, hml, hown, hts⟩ (c_Vt_look2 l dC dI v0 s.heap.size h0 t0 b0 e0 r0 d0 g0 u0 i0 fa fw fs he sta lf hru se h1 cB sec pw n f h4 hn hit) (cwV 0 hts (gwV good_Vt (k_Vt_68) (k_Vt_69) (k_Vt_214) (k_Vt_0) (wcs (k_Vt_70) (fun _ h => h))) rfl rfl rfl (by decide +kernel) ⟨Nat.le_of_ble_eq_true rfl, Nat.le_of_ble_eq_true rfl⟩) (pv_of hPc hKc hDc (va_recv hKc hPc (ci := 11) (q0 := 0) rfl rfl)) rfl rfl hl.1 rfl (lv_room (Nat.le_of_ble_eq_true rfl)) d_Vt_up_2 ⟨by decide, by decide⟩) hS (fun q _ h => hFc q h) hFc (fun r_1 u t H1 locs ht hvm hw hB hz1 hk1 hS => ?_)
  subst hw
  obtain ⟨hP1, hK1, hD1⟩ := hB
  rw [ht] at hP1
  have hP1 : va_P (dC, dI) classes [(v0, .inr (11, [.ref h0, .ref t0, .ref b0, .ref e0, .ref r0, .ref d0, .ref g0, .ref u0, .ref i0, .ref fa, .ref fw, .int fs, .int he, .int sta, .int lf, .int hru])), (i0, .inr (6, [.ref h0, .int se])), (h0, .inr (0, [.int sec, .ref h1, .int pw])), (h1, .inl (cB, n, .inl f))] H1 := hP1
  have hD1 : va_D _ [(v0, .inr (11, [.ref h0, .ref t0, .ref b0, .ref e0, .ref r0, .ref d0, .ref g0, .ref u0, .ref i0, .ref fa, .ref fw, .int fs, .int he, .int sta, .int lf, .int hru])), (i0, .inr (6, [.ref h0, .int se])), (h0, .inr (0, [.int sec, .ref h1, .int pw])), (h1, .inl (cB, n, .inl f))] := hD1
  obtain ⟨hP, hD⟩ := va_join (wr := []) (w1 := [(v0, .inr (11, [.ref h0, .ref t0, .ref b0, .ref e0, .ref r0, .ref d0, .ref g0, .ref u0, .ref i0, .ref fa, .ref fw, .int fs, .int he, .int sta, .int lf, .int hru])), (i0, .inr (6, [.ref h0, .int se])), (h0, .inr (0, [.int sec, .ref h1, .int pw])), (h1, .inl (cB, n, .inl f))]) hP hD [0, 1, 2, 3] [] rfl rfl (by decide) (by decide) hk1 hFc hP1 hD1
  generalize H1 = H at hP hS ⊢
  have hP : va_P (dC, dI) classes [(v0, .inr (11, [.ref h0, .ref t0, .ref b0, .ref e0, .ref r0, .ref d0, .ref g0, .ref u0, .ref i0, .ref fa, .ref fw, .int fs, .int he, .int sta, .int lf, .int hru])), (i0, .inr (6, [.ref h0, .int se])), (h0, .inr (0, [.int sec, .ref h1, .int pw])), (h1, .inl (cB, n, .inl f))] H := hP
  have hD : va_D A [(v0, .inr (11, [.ref h0, .ref t0, .ref b0, .ref e0, .ref r0, .ref d0, .ref g0, .ref u0, .ref i0, .ref fa, .ref fw, .int fs, .int he, .int sta, .int lf, .int hru])), (i0, .inr (6, [.ref h0, .int se])), (h0, .inr (0, [.int sec, .ref h1, .int pw])), (h1, .inl (cB, n, .inl f))] := hD
  have hPc := hP.sub (ws' := [(v0, .inr (11, [.ref h0, .ref t0, .ref b0, .ref e0, .ref r0, .ref d0, .ref g0, .ref u0, .ref i0, .ref fa, .ref fw, .int fs, .int he, .int sta, .int lf, .int hru]))]) [0] rfl
  have hDc := hD.sub (ws' := [(v0, .inr (11, [.ref h0, .ref t0, .ref b0, .ref e0, .ref r0, .ref d0, .ref g0, .ref u0, .ref i0, .ref fa, .ref fw, .int fs, .int he, .int sta, .int lf, .int hru]))]) [0] (by decide) rfl
  have hKc := hK.sub (tys' := []) [] rfl
  have hFc := va_free (wc := [(v0, .inr (11, [.ref h0, .ref t0, .ref b0, .ref e0, .ref r0, .ref d0, .ref g0, .ref u0, .ref i0, .ref fa, .ref fw, .int fs, .int he, .int sta, .int lf, .int hru]))]) hD hS hA [0] rfl
  refine va_calli (va_runV (As := [.int 2]) (rest := []) ⟨hx, hb, hml, hown, hts⟩ (c_Vt_readsInodes2 l dC dI v0 H.size h0 t0 b0 e0 r0 d0 g0 u0 i0 fa fw fs he sta lf hru) (cwV 1 hts (gwV good_Vt (k_Vt_111) (k_Vt_112) (k_Vt_215) (k_Vt_0) (wcs (k_Vt_113) (fun _ h => h))) rfl rfl rfl (by decide +kernel) ⟨Nat.le_of_ble_eq_true rfl, Nat.le_of_ble_eq_true rfl⟩) (pv_of hPc hKc hDc (va_recv hKc hPc (ci := 11) (q0 := 0) rfl rfl)) rfl rfl hl.1 rfl (lv_room (Nat.le_of_ble_eq_true rfl)) d_Vt_up_5 ⟨by decide, by decide⟩) hS (fun q _ h => hFc q h) hFc (fun r_2 u t H1 locs ht hvm hw hB hz1 hk1 hS => ?_)
  subst hw
  obtain ⟨hP1, hK1, hD1⟩ := hB
  rw [ht] at hP1
  have hP1 : va_P (dC, dI) classes [(v0, .inr (11, [.ref h0, .ref t0, .ref b0, .ref e0, .ref r0, .ref d0, .ref g0, .ref u0, .ref i0, .ref fa, .ref fw, .int fs, .int he, .int sta, .int lf, .int hru]))] H1 := hP1
  have hD1 : va_D _ [(v0, .inr (11, [.ref h0, .ref t0, .ref b0, .ref e0, .ref r0, .ref d0, .ref g0, .ref u0, .ref i0, .ref fa, .ref fw, .int fs, .int he, .int sta, .int lf, .int hru]))] := hD1
  obtain ⟨hP, hD⟩ := va_join (wr := [(i0, .inr (6, [.ref h0, .int se])), (h0, .inr (0, [.int sec, .ref h1, .int pw])), (h1, .inl (cB, n, .inl f))]) (w1 := [(v0, .inr (11, [.ref h0, .ref t0, .ref b0, .ref e0, .ref r0, .ref d0, .ref g0, .ref u0, .ref i0, .ref fa, .ref fw, .int fs, .int he, .int sta, .int lf, .int hru]))]) hP hD [0] [1, 2, 3] rfl rfl (by decide) (by decide) hk1 hFc hP1 hD1
  generalize H1 = H at hP hS ⊢
  have hP : va_P (dC, dI) classes [(i0, .inr (6, [.ref h0, .int se])), (h0, .inr (0, [.int sec, .ref h1, .int pw])), (h1, .inl (cB, n, .inl f)), (v0, .inr (11, [.ref h0, .ref t0, .ref b0, .ref e0, .ref r0, .ref d0, .ref g0, .ref u0, .ref i0, .ref fa, .ref fw, .int fs, .int he, .int sta, .int lf, .int hru]))] H := hP
  have hD : va_D A [(i0, .inr (6, [.ref h0, .int se])), (h0, .inr (0, [.int sec, .ref h1, .int pw])), (h1, .inl (cB, n, .inl f)), (v0, .inr (11, [.ref h0, .ref t0, .ref b0, .ref e0, .ref r0, .ref d0, .ref g0, .ref u0, .ref i0, .ref fa, .ref fw, .int fs, .int he, .int sta, .int lf, .int hru]))] := hD
  refine lv_istore_n (lv' := [(1, .int 1), (0, .ref v0)]) hx hb d_Vt_up_8 rfl hl (by decide) rfl (fun ls hl => ?_)
  refine lv_aload_n hx hb d_Vt_up_9 rfl (lv_at hl 1 rfl) ?_
  refine va_get (D := (dC, dI)) (ci := 11) (v := .int he) (C := R_Vt) (T := F_Vt) (N := 16) hx hb hts i_Vt hown hK hP 3 rfl rfl 12 (by decide) (hts _ (k_Vt_41)) (fun _ h9 => h9) rfl d_Vt_up_10 ?_
  refine lv_if_ne (tgt := 18) hx hb d_Vt_up_13 (by decide) (fun c_3 => ?_) (fun c_3 => ?_)
  · refine lv_aload_n hx hb d_Vt_up_18 rfl (lv_at hl 1 rfl) ?_
    refine lv_iload_n hx hb d_Vt_up_19 rfl (lv_at hl 0 rfl) ?_
    refine lv_if_eq (tgt := 37) hx hb d_Vt_up_20 (by decide) (fun c_4 => ?_) (fun c_4 => ?_)
    · exact absurd c_4 (by decide)
    · refine lv_aload_n hx hb d_Vt_up_23 rfl (lv_at hl 1 rfl) ?_
      refine va_get (D := (dC, dI)) (ci := 11) (v := .ref i0) (C := R_Vt) (T := F_Vt) (N := 16) hx hb hts i_Vt hown hK hP 3 rfl rfl 8 (by decide) (hts _ (k_Vt_37)) (fun _ h9 => h9) rfl d_Vt_up_24 ?_
      refine lv_aload_n hx hb d_Vt_up_27 rfl (lv_at hl 1 rfl) ?_
      refine va_get (D := (dC, dI)) (ci := 11) (v := .int he) (C := R_Vt) (T := F_Vt) (N := 16) hx hb hts i_Vt hown hK hP 3 rfl rfl 12 (by decide) (hts _ (k_Vt_41)) (fun _ h9 => h9) rfl d_Vt_up_28 ?_
      have hPc := hP.sub (ws' := [(i0, .inr (6, [.ref h0, .int se])), (h0, .inr (0, [.int sec, .ref h1, .int pw])), (h1, .inl (cB, n, .inl f))]) [0, 1, 2] rfl
      have hDc := hD.sub (ws' := [(i0, .inr (6, [.ref h0, .int se])), (h0, .inr (0, [.int sec, .ref h1, .int pw])), (h1, .inl (cB, n, .inl f))]) [0, 1, 2] (by decide) rfl
      have hKc := hK.sub (tys' := [(cB, .byte)]) [0] rfl
      have hFc := va_free (wc := [(i0, .inr (6, [.ref h0, .int se])), (h0, .inr (0, [.int sec, .ref h1, .int pw])), (h1, .inl (cB, n, .inl f))]) hD hS hA [0, 1, 2] rfl
      refine va_calli (va_runV (As := [.int he]) (rest := [.ref v0]) ⟨hx, hb, hml, hown, hts⟩ (c_In_parentOf l dC dI i0 h0 H.size se h1 cB sec pw n f h4 hn he) (cwV 1 hts (gwV good_Vt (k_Vt_161) (u_Vt_In _ k_In_61) (u_Vt_In _ k_In_62) (u_Vt_In _ k_In_0) (wcs (u_Vt_In _ k_In_63) u_Vt_In)) rfl rfl rfl (by decide +kernel) ⟨Nat.le_of_ble_eq_true rfl, Nat.le_of_ble_eq_true rfl⟩) (pv_of hPc hKc hDc (va_recv hKc hPc (ci := 6) (q0 := 0) rfl rfl)) rfl rfl hl.1 rfl (lv_room (Nat.le_of_ble_eq_true rfl)) d_Vt_up_31 ⟨by decide, by decide⟩) hS (fun q _ h => hFc q h) hFc (fun r_5 u t H1 locs ht hvm hw hB hz1 hk1 hS => ?_)
      subst hw
      obtain ⟨hP1, hK1, hD1⟩ := hB
      rw [ht] at hP1
      have hP1 : va_P (dC, dI) classes [(i0, .inr (6, [.ref h0, .int ((in_find n f he 1).2)])), (h0, .inr (0, [.int sec, .ref h1, .int pw])), (h1, .inl (cB, n, .inl f))] H1 := hP1
      have hD1 : va_D _ [(i0, .inr (6, [.ref h0, .int ((in_find n f he 1).2)])), (h0, .inr (0, [.int sec, .ref h1, .int pw])), (h1, .inl (cB, n, .inl f))] := hD1
      obtain ⟨hP, hD⟩ := va_join (wr := [(v0, .inr (11, [.ref h0, .ref t0, .ref b0, .ref e0, .ref r0, .ref d0, .ref g0, .ref u0, .ref i0, .ref fa, .ref fw, .int fs, .int he, .int sta, .int lf, .int hru]))]) (w1 := [(i0, .inr (6, [.ref h0, .int ((in_find n f he 1).2)])), (h0, .inr (0, [.int sec, .ref h1, .int pw])), (h1, .inl (cB, n, .inl f))]) hP hD [0, 1, 2] [3] rfl rfl (by decide) (by decide) hk1 hFc hP1 hD1
      generalize H1 = H at hP hS ⊢
      have hP : va_P (dC, dI) classes [(v0, .inr (11, [.ref h0, .ref t0, .ref b0, .ref e0, .ref r0, .ref d0, .ref g0, .ref u0, .ref i0, .ref fa, .ref fw, .int fs, .int he, .int sta, .int lf, .int hru])), (i0, .inr (6, [.ref h0, .int ((in_find n f he 1).2)])), (h0, .inr (0, [.int sec, .ref h1, .int pw])), (h1, .inl (cB, n, .inl f))] H := hP
      have hD : va_D A [(v0, .inr (11, [.ref h0, .ref t0, .ref b0, .ref e0, .ref r0, .ref d0, .ref g0, .ref u0, .ref i0, .ref fa, .ref fw, .int fs, .int he, .int sta, .int lf, .int hru])), (i0, .inr (6, [.ref h0, .int ((in_find n f he 1).2)])), (h0, .inr (0, [.int sec, .ref h1, .int pw])), (h1, .inl (cB, n, .inl f))] := hD
      refine lv_goto (tgt := 48) hx hb d_Vt_up_34 (by decide) ?_
      refine va_put (D := (dC, dI)) (ci := 11) (v := .int (in_par n f he)) (ty := .int) (C := R_Vt) (T := F_Vt) (N := 16) hx hb hts i_Vt t_Vt t_Vt_ok n_Vt hown hK hP hD hS 0 rfl rfl 12 (by decide) (hts _ (k_Vt_41)) (fun _ h9 => h9) rfl (by decide +kernel) rfl rfl (Nat.le_of_ble_eq_true rfl) d_Vt_up_48 (fun H locs hP hD hS => ?_)
      have hP : va_P (dC, dI) classes [(v0, .inr (11, [.ref h0, .ref t0, .ref b0, .ref e0, .ref r0, .ref d0, .ref g0, .ref u0, .ref i0, .ref fa, .ref fw, .int fs, .int (in_par n f he), .int sta, .int lf, .int hru])), (i0, .inr (6, [.ref h0, .int ((in_find n f he 1).2)])), (h0, .inr (0, [.int sec, .ref h1, .int pw])), (h1, .inl (cB, n, .inl f))] H := hP
      have hD : va_D A [(v0, .inr (11, [.ref h0, .ref t0, .ref b0, .ref e0, .ref r0, .ref d0, .ref g0, .ref u0, .ref i0, .ref fa, .ref fw, .int fs, .int (in_par n f he), .int sta, .int lf, .int hru])), (i0, .inr (6, [.ref h0, .int ((in_find n f he 1).2)])), (h0, .inr (0, [.int sec, .ref h1, .int pw])), (h1, .inl (cB, n, .inl f))] := hD
      refine lv_iconst (v := 1) hx hb d_Vt_up_51 (by decide) ?_
      exact W.zret (v := 1) hx hb hr rfl (fun t ht hW => ⟨⟨1, (in_par n f he, (in_find n f he 1).2), rfl, by rw [vt_up2, if_neg c_3], by rw [ht]; exact hP, va_K.moved hW.alike hK, hD⟩, hS.F ht⟩) hS.2.2 d_Vt_up_52
  · refine lv_iconst (v := 0) hx hb d_Vt_up_16 (by decide) ?_
    have hP := hP.sub (ws' := [(v0, .inr (11, [.ref h0, .ref t0, .ref b0, .ref e0, .ref r0, .ref d0, .ref g0, .ref u0, .ref i0, .ref fa, .ref fw, .int fs, .int he, .int sta, .int lf, .int hru])), (i0, .inr (6, [.ref h0, .int se])), (h0, .inr (0, [.int sec, .ref h1, .int pw])), (h1, .inl (cB, n, .inl f))]) [3, 0, 1, 2] rfl
    have hD := hD.sub (ws' := [(v0, .inr (11, [.ref h0, .ref t0, .ref b0, .ref e0, .ref r0, .ref d0, .ref g0, .ref u0, .ref i0, .ref fa, .ref fw, .int fs, .int he, .int sta, .int lf, .int hru])), (i0, .inr (6, [.ref h0, .int se])), (h0, .inr (0, [.int sec, .ref h1, .int pw])), (h1, .inl (cB, n, .inl f))]) [3, 0, 1, 2] (by decide) rfl
    exact W.zret (v := 0) hx hb hr rfl (fun t ht hW => ⟨⟨0, (he, se), rfl, by rw [vt_up2, if_pos c_3], by rw [ht]; exact hP, va_K.moved hW.alike hK, hD⟩, hS.F ht⟩) hS.2.2 d_Vt_up_17
set_option maxHeartbeats 4000000 in
set_option maxRecDepth 100000 in
/-- wantSoundTable where there is an inode volume -/
theorem cx_Vt_wantSoundTable2 (l : Launch) (hfl : l.flags = pinnedFlags ++ [noTraceFlag]) (dC : Nat → ClassId) (dI : Nat → Nat → Nat) (v0 sz h0 t0 b0 e0 r0 d0 g0 u0 i0 fa fw : Nat) (fs he sta lf hru : Int32) : MetX l y_Vt_wantSoundTable (.code y_Vt_wantSoundTable b_Vt_wantSoundTable 2 none :: V_Vt) ({ frames := 6, cells := 1, slots := 6, locals := 90 }) (va_Pc [.ref v0, .int 2] (fun U => U.heap.size = sz ∧ at_ (dC, dI) (fun _ => True) [(v0, .inr (11, [.ref h0, .ref t0, .ref b0, .ref e0, .ref r0, .ref d0, .ref g0, .ref u0, .ref i0, .ref fa, .ref fw, .int fs, .int he, .int sta, .int lf, .int hru]))] [] U ∧ x_T R_Vt 314 "java/lang/IllegalStateException" 335 "no sound table volume" U)) (fun _ _ _ _ => False) (x_Q "java/lang/IllegalStateException" (va_A [(v0, .inr (11, [.ref h0, .ref t0, .ref b0, .ref e0, .ref r0, .ref d0, .ref g0, .ref u0, .ref i0, .ref fa, .ref fw, .int fs, .int he, .int sta, .int lf, .int hru]))] sz) (at_ (dC, dI) (va_A [(v0, .inr (11, [.ref h0, .ref t0, .ref b0, .ref e0, .ref r0, .ref d0, .ref g0, .ref u0, .ref i0, .ref fa, .ref fw, .int fs, .int he, .int sta, .int lf, .int hru]))] sz) [(v0, .inr (11, [.ref h0, .ref t0, .ref b0, .ref e0, .ref r0, .ref d0, .ref g0, .ref u0, .ref i0, .ref fa, .ref fw, .int fs, .int he, .int sta, .int lf, .int hru]))] [])) 1 6 (va_A [(v0, .inr (11, [.ref h0, .ref t0, .ref b0, .ref e0, .ref r0, .ref d0, .ref g0, .ref u0, .ref i0, .ref fa, .ref fw, .int fs, .int he, .int sta, .int lf, .int hru]))] sz) := by
  refine MetX.ofW (cc := b_Vt_wantSoundTable) (maxL := 2) (ret := none) (by decide) rfl ?_
  intro p e s m args below meth c s₁ B hml hv
  obtain ⟨rfl, hsz, ⟨hP, hK, hD0⟩, hE⟩ := hv
  have hx := B.exec
  have hb := B.bytes
  have hr := B.returns
  have hts0 := atoms_spec (ws := .code y_Vt_wantSoundTable b_Vt_wantSoundTable 2 none :: V_Vt) B.pre
  have hts : ∀ w ∈ V_Vt, w.before ([.ref v0, .int 2] : List Value).toArray s = true := fun w h => hts0 w (List.mem_cons_of_mem _ h)
  have hown : s.vm.findClass R_Vt = some m.cls := findClass_of_methodNamed B.named
  have hlocks := B.notSynchronized
  subst hsz
  have hD := hD0.self (sz := s.heap.size)
  generalize hAe : va_A [(v0, .inr (11, [.ref h0, .ref t0, .ref b0, .ref e0, .ref r0, .ref d0, .ref g0, .ref u0, .ref i0, .ref fa, .ref fw, .int fs, .int he, .int sta, .int lf, .int hru]))] s.heap.size = A at hD ⊢
  have hA : ∀ q : Nat, s.heap.size ≤ q → A q := fun q h => by rw [← hAe]; exact Or.inr h
  have hS : va_S A s.heap s.heap [] := va_S.rf
  have hP : va_P (dC, dI) classes [(v0, .inr (11, [.ref h0, .ref t0, .ref b0, .ref e0, .ref r0, .ref d0, .ref g0, .ref u0, .ref i0, .ref fa, .ref fw, .int fs, .int he, .int sta, .int lf, .int hru]))] s.heap := hP
  have hK : va_K (dC, dI) classes [] s := hK
  have hP0 := hP
  have hout := x_table B (hts0 _ List.mem_cons_self)
  have hl := lv_entry ([.ref v0, .int 2]) (n := 2) (Nat.le_of_ble_eq_true rfl)
  rw [lg_entry_eq]
  generalize (lg_sl ([.ref v0, .int 2]) ++ List.replicate (2 - (lg_sl ([.ref v0, .int 2])).length) Slot.unset).toArray = ls at hl ⊢
  have hl : lv_has ls 2 [(0, .ref v0), (1, .int 2)] := hl
  refine lv_iload_n hx hb d_Vt_wantSoundTable_0 rfl (lv_at hl 1 rfl) ?_
  refine lv_iconst (v := 1) hx hb d_Vt_wantSoundTable_1 (by decide) ?_
  refine lv_icmp_ne (tgt := 12) hx hb d_Vt_wantSoundTable_2 (by decide) (fun c_1 => ?_) (fun c_1 => ?_)
  · exact x_thrG (own := R_Vt) (cls := "java/lang/IllegalStateException") (ik := 310) (is := 335) (ic := 314) (k := 3) hx hb (Launch.traces_off hfl (Stand.of_body B).admits) hlocks hown (by decide) (fun T hT => hE.1.move x_allS (State.WarmedH.refl s) (by show x_kept s.heap T.heap; rw [hT]; exact x_kept.ofS hP0 hAe hS)) (hts _ (k_Vt_114)) (hts _ (k_Vt_115)) (hts _ (k_Vt_3)) hE.2 (hl.1.trans hml.symm) d_Vt_wantSoundTable_12 d_Vt_wantSoundTable_15 (Or.inr ⟨d_Vt_wantSoundTable_16, rfl⟩) d_Vt_wantSoundTable_19 d_Vt_wantSoundTable_22 hout (by decide) (by decide) (by decide) (by decide) (by decide) (by decide) hP hK hD hS
  · exact absurd c_1 (by decide)
set_option maxHeartbeats 4000000 in
set_option maxRecDepth 100000 in
/-- grow where there is an inode volume -/
theorem cx_Vt_grow2 (l : Launch) (hfl : l.flags = pinnedFlags ++ [noTraceFlag]) (dC : Nat → ClassId) (dI : Nat → Nat → Nat) (v0 sz h0 t0 b0 e0 r0 d0 g0 u0 i0 fa fw : Nat) (fs he sta lf hru : Int32) (se : Int32) (h1 : Nat) (cB : ClassId) (sec pw : Int32) (n : Nat) (f : Nat → Int32) (h4 : 4 ≤ n) (hn : n < 2 ^ 31) (hit : in_there n f = 1) (p1 p2 p3 : Int32) : MetX l y_Vt_grow (.code y_Vt_grow b_Vt_grow 8 (some .int) :: V_Vt) ({ frames := 7, cells := 1, slots := 6, locals := 111 }) (va_Pc [.ref v0, .int p1, .int p2, .int p3] (fun U => U.heap.size = sz ∧ at_ (dC, dI) (fun _ => True) [(v0, .inr (11, [.ref h0, .ref t0, .ref b0, .ref e0, .ref r0, .ref d0, .ref g0, .ref u0, .ref i0, .ref fa, .ref fw, .int fs, .int he, .int sta, .int lf, .int hru])), (i0, .inr (6, [.ref h0, .int se])), (h0, .inr (0, [.int sec, .ref h1, .int pw])), (h1, .inl (cB, n, .inl f))] [(cB, .byte)] U ∧ x_T R_Vt 314 "java/lang/IllegalStateException" 335 "no sound table volume" U)) (fun _ _ _ _ => False) (x_Q "java/lang/IllegalStateException" (va_A [(v0, .inr (11, [.ref h0, .ref t0, .ref b0, .ref e0, .ref r0, .ref d0, .ref g0, .ref u0, .ref i0, .ref fa, .ref fw, .int fs, .int he, .int sta, .int lf, .int hru])), (i0, .inr (6, [.ref h0, .int se])), (h0, .inr (0, [.int sec, .ref h1, .int pw])), (h1, .inl (cB, n, .inl f))] sz) (at_ (dC, dI) (va_A [(v0, .inr (11, [.ref h0, .ref t0, .ref b0, .ref e0, .ref r0, .ref d0, .ref g0, .ref u0, .ref i0, .ref fa, .ref fw, .int fs, .int he, .int sta, .int lf, .int hru])), (i0, .inr (6, [.ref h0, .int se])), (h0, .inr (0, [.int sec, .ref h1, .int pw])), (h1, .inl (cB, n, .inl f))] sz) [(i0, .inr (6, [.ref h0, .int se])), (h0, .inr (0, [.int sec, .ref h1, .int pw])), (h1, .inl (cB, n, .inl f)), (v0, .inr (11, [.ref h0, .ref t0, .ref b0, .ref e0, .ref r0, .ref d0, .ref g0, .ref u0, .ref i0, .ref fa, .ref fw, .int fs, .int he, .int sta, .int lf, .int hru]))] [(cB, .byte)])) 1 6 (va_A [(v0, .inr (11, [.ref h0, .ref t0, .ref b0, .ref e0, .ref r0, .ref d0, .ref g0, .ref u0, .ref i0, .ref fa, .ref fw, .int fs, .int he, .int sta, .int lf, .int hru])), (i0, .inr (6, [.ref h0, .int se])), (h0, .inr (0, [.int sec, .ref h1, .int pw])), (h1, .inl (cB, n, .inl f))] sz) := by
  refine MetX.ofW (cc := b_Vt_grow) (maxL := 8) (ret := (some .int)) (by decide) rfl ?_
  intro p e s m args below meth c s₁ B hml hv
  obtain ⟨rfl, hsz, ⟨hP, hK, hD0⟩, hE⟩ := hv
  have hx := B.exec
  have hb := B.bytes
  have hr := B.returns
  have hts0 := atoms_spec (ws := .code y_Vt_grow b_Vt_grow 8 (some .int) :: V_Vt) B.pre
  have hts : ∀ w ∈ V_Vt, w.before ([.ref v0, .int p1, .int p2, .int p3] : List Value).toArray s = true := fun w h => hts0 w (List.mem_cons_of_mem _ h)
  have hown : s.vm.findClass R_Vt = some m.cls := findClass_of_methodNamed B.named
  have hlocks := B.notSynchronized
  subst hsz
  have hD := hD0.self (sz := s.heap.size)
  generalize hAe : va_A [(v0, .inr (11, [.ref h0, .ref t0, .ref b0, .ref e0, .ref r0, .ref d0, .ref g0, .ref u0, .ref i0, .ref fa, .ref fw, .int fs, .int he, .int sta, .int lf, .int hru])), (i0, .inr (6, [.ref h0, .int se])), (h0, .inr (0, [.int sec, .ref h1, .int pw])), (h1, .inl (cB, n, .inl f))] s.heap.size = A at hD ⊢
  have hA : ∀ q : Nat, s.heap.size ≤ q → A q := fun q h => by rw [← hAe]; exact Or.inr h
  have hS : va_S A s.heap s.heap [] := va_S.rf
  have hP : va_P (dC, dI) classes [(v0, .inr (11, [.ref h0, .ref t0, .ref b0, .ref e0, .ref r0, .ref d0, .ref g0, .ref u0, .ref i0, .ref fa, .ref fw, .int fs, .int he, .int sta, .int lf, .int hru])), (i0, .inr (6, [.ref h0, .int se])), (h0, .inr (0, [.int sec, .ref h1, .int pw])), (h1, .inl (cB, n, .inl f))] s.heap := hP
  have hK : va_K (dC, dI) classes [(cB, .byte)] s := hK
  have hP0 := hP
  have hout := x_table B (hts0 _ List.mem_cons_self)
  have hl := lv_entry ([.ref v0, .int p1, .int p2, .int p3]) (n := 8) (Nat.le_of_ble_eq_true rfl)
  rw [lg_entry_eq]
  generalize (lg_sl ([.ref v0, .int p1, .int p2, .int p3]) ++ List.replicate (8 - (lg_sl ([.ref v0, .int p1, .int p2, .int p3])).length) Slot.unset).toArray = ls at hl ⊢
  have hl : lv_has ls 8 [(0, .ref v0), (1, .int p1), (2, .int p2), (3, .int p3)] := hl
  refine lv_aload_n hx hb d_Vt_grow_0 rfl (lv_at hl 0 rfl) ?_
  refine lv_aload_n hx hb d_Vt_grow_1 rfl (lv_at hl 0 rfl) ?_
  have hPc := hP.sub (ws' := [(v0, .inr (11, [.ref h0, .ref t0, .ref b0, .ref e0, .ref r0, .ref d0, .ref g0, .ref u0, .ref i0, .ref fa, .ref fw, .int fs, .int he, .int sta, .int lf, .int hru])), (i0, .inr (6, [.ref h0, .int se])), (h0, .inr (0, [.int sec, .ref h1, .int pw])), (h1, .inl (cB, n, .inl f))]) [0, 1, 2, 3] rfl
  have hDc := hD.sub (ws' := [(v0, .inr (11, [.ref h0, .ref t0, .ref b0, .ref e0, .ref r0, .ref d0, .ref g0, .ref u0, .ref i0, .ref fa, .ref fw, .int fs, .int he, .int sta, .int lf, .int hru])), (i0, .inr (6, [.ref h0, .int se])), (h0, .inr (0, [.int sec, .ref h1, .int pw])), (h1, .inl (cB, n, .inl f))]) [0, 1, 2, 3] (by decide) rfl
  have hKc := hK.sub (tys' := [(cB, .byte)]) [0] rfl
  have hFc := va_free (wc := [(v0, .inr (11, [.ref h0, .ref t0, .ref b0, .ref e0, .ref r0, .ref d0, .ref g0, .ref u0, .ref i0, .ref fa, .ref fw, .int fs, .int he, .int sta, .int lf, .int hru])), (i0, .inr (6, [.ref h0, .int se])), (h0, .inr (0, [.int sec, .ref h1, .int pw])), (h1, .inl (cB, n, .inl f))]) hD hS hA [0, 1, 2, 3] rfl
  refine va_calli (va_runV (As := []) (rest := [.ref v0]) ⟨hx, hb, hml, hown, hts⟩ (c_Vt_look2 l dC dI v0 s.heap.size h0 t0 b0 e0 r0 d0 g0 u0 i0 fa fw fs he sta lf hru se h1 cB sec pw n f h4 hn hit) (cwV 0 hts (gwV good_Vt (k_Vt_68) (k_Vt_69) (k_Vt_214) (k_Vt_0) (wcs (k_Vt_70) (fun _ h => h))) rfl rfl rfl (by decide +kernel) ⟨Nat.le_of_ble_eq_true rfl, Nat.le_of_ble_eq_true rfl⟩) (pv_of hPc hKc hDc (va_recv hKc hPc (ci := 11) (q0 := 0) rfl rfl)) rfl rfl hl.1 rfl (lv_room (Nat.le_of_ble_eq_true rfl)) d_Vt_grow_2 ⟨by decide, by decide⟩) hS (fun q _ h => hFc q h) hFc (fun r_1 u t H1 locs ht hvm hw hB hz1 hk1 hS => ?_)
  subst hw
  obtain ⟨hP1, hK1, hD1⟩ := hB
  rw [ht] at hP1
  have hP1 : va_P (dC, dI) classes [(v0, .inr (11, [.ref h0, .ref t0, .ref b0, .ref e0, .ref r0, .ref d0, .ref g0, .ref u0, .ref i0, .ref fa, .ref fw, .int fs, .int he, .int sta, .int lf, .int hru])), (i0, .inr (6, [.ref h0, .int se])), (h0, .inr (0, [.int sec, .ref h1, .int pw])), (h1, .inl (cB, n, .inl f))] H1 := hP1
  have hD1 : va_D _ [(v0, .inr (11, [.ref h0, .ref t0, .ref b0, .ref e0, .ref r0, .ref d0, .ref g0, .ref u0, .ref i0, .ref fa, .ref fw, .int fs, .int he, .int sta, .int lf, .int hru])), (i0, .inr (6, [.ref h0, .int se])), (h0, .inr (0, [.int sec, .ref h1, .int pw])), (h1, .inl (cB, n, .inl f))] := hD1
  obtain ⟨hP, hD⟩ := va_join (wr := []) (w1 := [(v0, .inr (11, [.ref h0, .ref t0, .ref b0, .ref e0, .ref r0, .ref d0, .ref g0, .ref u0, .ref i0, .ref fa, .ref fw, .int fs, .int he, .int sta, .int lf, .int hru])), (i0, .inr (6, [.ref h0, .int se])), (h0, .inr (0, [.int sec, .ref h1, .int pw])), (h1, .inl (cB, n, .inl f))]) hP hD [0, 1, 2, 3] [] rfl rfl (by decide) (by decide) hk1 hFc hP1 hD1
  generalize H1 = H at hP hS ⊢
  have hP : va_P (dC, dI) classes [(v0, .inr (11, [.ref h0, .ref t0, .ref b0, .ref e0, .ref r0, .ref d0, .ref g0, .ref u0, .ref i0, .ref fa, .ref fw, .int fs, .int he, .int sta, .int lf, .int hru])), (i0, .inr (6, [.ref h0, .int se])), (h0, .inr (0, [.int sec, .ref h1, .int pw])), (h1, .inl (cB, n, .inl f))] H := hP
  have hD : va_D A [(v0, .inr (11, [.ref h0, .ref t0, .ref b0, .ref e0, .ref r0, .ref d0, .ref g0, .ref u0, .ref i0, .ref fa, .ref fw, .int fs, .int he, .int sta, .int lf, .int hru])), (i0, .inr (6, [.ref h0, .int se])), (h0, .inr (0, [.int sec, .ref h1, .int pw])), (h1, .inl (cB, n, .inl f))] := hD
  have hPc := hP.sub (ws' := [(v0, .inr (11, [.ref h0, .ref t0, .ref b0, .ref e0, .ref r0, .ref d0, .ref g0, .ref u0, .ref i0, .ref fa, .ref fw, .int fs, .int he, .int sta, .int lf, .int hru]))]) [0] rfl
  have hDc := hD.sub (ws' := [(v0, .inr (11, [.ref h0, .ref t0, .ref b0, .ref e0, .ref r0, .ref d0, .ref g0, .ref u0, .ref i0, .ref fa, .ref fw, .int fs, .int he, .int sta, .int lf, .int hru]))]) [0] (by decide) rfl
  have hKc := hK.sub (tys' := []) [] rfl
  have hFc := va_free (wc := [(v0, .inr (11, [.ref h0, .ref t0, .ref b0, .ref e0, .ref r0, .ref d0, .ref g0, .ref u0, .ref i0, .ref fa, .ref fw, .int fs, .int he, .int sta, .int lf, .int hru]))]) hD hS hA [0] rfl
  exact x_outV (n := 1) (As := [.int 2]) (rest := []) (b := v0) (st0 := [.int 2, .ref v0]) ⟨hx, hb, hml, hown, hts⟩ (cx_Vt_wantSoundTable2 l hfl dC dI v0 H.size h0 t0 b0 e0 r0 d0 g0 u0 i0 fa fw fs he sta lf hru) (cwV 1 hts (gwV good_Vt (k_Vt_166) (k_Vt_167) (k_Vt_216) (k_Vt_0) (wcs (k_Vt_168) (fun _ h => h))) rfl rfl rfl (by decide +kernel) ⟨Nat.le_of_ble_eq_true rfl, Nat.le_of_ble_eq_true rfl⟩) (pv_ofE (fun U V z1 z2 z => x_T.same x_allS z1 z2 z) (fun U z1 z2 => x_T.at x_allS hE z2 (by rw [z1]; exact x_kept.ofS hP0 hAe hS)) hPc hKc hDc (va_recv hKc hPc (ci := 11) (q0 := 0) rfl rfl)) rfl hl.1 rfl (by decide) d_Vt_grow_5 ⟨by decide, by decide⟩ hlocks hout ⟨by decide, by decide⟩ (fun E st t U z1 z2 z3 z4 z5 => x_outQ (wr := [(i0, .inr (6, [.ref h0, .int se])), (h0, .inr (0, [.int sec, .ref h1, .int pw])), (h1, .inl (cB, n, .inl f))]) (w1 := [(v0, .inr (11, [.ref h0, .ref t0, .ref b0, .ref e0, .ref r0, .ref d0, .ref g0, .ref u0, .ref i0, .ref fa, .ref fw, .int fs, .int he, .int sta, .int lf, .int hru]))]) hS hP hD hK [0] [1, 2, 3] rfl rfl (by decide) (by decide) hFc z1 z3 z4 z5) ⟨hS.2.2, fun z h => hFc z h⟩
set_option maxHeartbeats 4000000 in
set_option maxRecDepth 100000 in
/-- cut where there is an inode volume -/
theorem cx_Vt_cut2 (l : Launch) (hfl : l.flags = pinnedFlags ++ [noTraceFlag]) (dC : Nat → ClassId) (dI : Nat → Nat → Nat) (v0 sz h0 t0 b0 e0 r0 d0 g0 u0 i0 fa fw : Nat) (fs he sta lf hru : Int32) (se : Int32) (h1 : Nat) (cB : ClassId) (sec pw : Int32) (n : Nat) (f : Nat → Int32) (h4 : 4 ≤ n) (hn : n < 2 ^ 31) (hit : in_there n f = 1) (p1 p2 : Int32) : MetX l y_Vt_cut (.code y_Vt_cut b_Vt_cut 4 (some .int) :: V_Vt) ({ frames := 7, cells := 1, slots := 6, locals := 111 }) (va_Pc [.ref v0, .int p1, .int p2] (fun U => U.heap.size = sz ∧ at_ (dC, dI) (fun _ => True) [(v0, .inr (11, [.ref h0, .ref t0, .ref b0, .ref e0, .ref r0, .ref d0, .ref g0, .ref u0, .ref i0, .ref fa, .ref fw, .int fs, .int he, .int sta, .int lf, .int hru])), (i0, .inr (6, [.ref h0, .int se])), (h0, .inr (0, [.int sec, .ref h1, .int pw])), (h1, .inl (cB, n, .inl f))] [(cB, .byte)] U ∧ x_T R_Vt 314 "java/lang/IllegalStateException" 335 "no sound table volume" U)) (fun _ _ _ _ => False) (x_Q "java/lang/IllegalStateException" (va_A [(v0, .inr (11, [.ref h0, .ref t0, .ref b0, .ref e0, .ref r0, .ref d0, .ref g0, .ref u0, .ref i0, .ref fa, .ref fw, .int fs, .int he, .int sta, .int lf, .int hru])), (i0, .inr (6, [.ref h0, .int se])), (h0, .inr (0, [.int sec, .ref h1, .int pw])), (h1, .inl (cB, n, .inl f))] sz) (at_ (dC, dI) (va_A [(v0, .inr (11, [.ref h0, .ref t0, .ref b0, .ref e0, .ref r0, .ref d0, .ref g0, .ref u0, .ref i0, .ref fa, .ref fw, .int fs, .int he, .int sta, .int lf, .int hru])), (i0, .inr (6, [.ref h0, .int se])), (h0, .inr (0, [.int sec, .ref h1, .int pw])), (h1, .inl (cB, n, .inl f))] sz) [(i0, .inr (6, [.ref h0, .int se])), (h0, .inr (0, [.int sec, .ref h1, .int pw])), (h1, .inl (cB, n, .inl f)), (v0, .inr (11, [.ref h0, .ref t0, .ref b0, .ref e0, .ref r0, .ref d0, .ref g0, .ref u0, .ref i0, .ref fa, .ref fw, .int fs, .int he, .int sta, .int lf, .int hru]))] [(cB, .byte)])) 1 6 (va_A [(v0, .inr (11, [.ref h0, .ref t0, .ref b0, .ref e0, .ref r0, .ref d0, .ref g0, .ref u0, .ref i0, .ref fa, .ref fw, .int fs, .int he, .int sta, .int lf, .int hru])), (i0, .inr (6, [.ref h0, .int se])), (h0, .inr (0, [.int sec, .ref h1, .int pw])), (h1, .inl (cB, n, .inl f))] sz) := by
  refine MetX.ofW (cc := b_Vt_cut) (maxL := 4) (ret := (some .int)) (by decide) rfl ?_
  intro p e s m args below meth c s₁ B hml hv
  obtain ⟨rfl, hsz, ⟨hP, hK, hD0⟩, hE⟩ := hv
  have hx := B.exec
  have hb := B.bytes
  have hr := B.returns
  have hts0 := atoms_spec (ws := .code y_Vt_cut b_Vt_cut 4 (some .int) :: V_Vt) B.pre
  have hts : ∀ w ∈ V_Vt, w.before ([.ref v0, .int p1, .int p2] : List Value).toArray s = true := fun w h => hts0 w (List.mem_cons_of_mem _ h)
  have hown : s.vm.findClass R_Vt = some m.cls := findClass_of_methodNamed B.named
  have hlocks := B.notSynchronized
  subst hsz
  have hD := hD0.self (sz := s.heap.size)
  generalize hAe : va_A [(v0, .inr (11, [.ref h0, .ref t0, .ref b0, .ref e0, .ref r0, .ref d0, .ref g0, .ref u0, .ref i0, .ref fa, .ref fw, .int fs, .int he, .int sta, .int lf, .int hru])), (i0, .inr (6, [.ref h0, .int se])), (h0, .inr (0, [.int sec, .ref h1, .int pw])), (h1, .inl (cB, n, .inl f))] s.heap.size = A at hD ⊢
  have hA : ∀ q : Nat, s.heap.size ≤ q → A q := fun q h => by rw [← hAe]; exact Or.inr h
  have hS : va_S A s.heap s.heap [] := va_S.rf
  have hP : va_P (dC, dI) classes [(v0, .inr (11, [.ref h0, .ref t0, .ref b0, .ref e0, .ref r0, .ref d0, .ref g0, .ref u0, .ref i0, .ref fa, .ref fw, .int fs, .int he, .int sta, .int lf, .int hru])), (i0, .inr (6, [.ref h0, .int se])), (h0, .inr (0, [.int sec, .ref h1, .int pw])), (h1, .inl (cB, n, .inl f))] s.heap := hP
  have hK : va_K (dC, dI) classes [(cB, .byte)] s := hK
  have hP0 := hP
  have hout := x_table B (hts0 _ List.mem_cons_self)
  have hl := lv_entry ([.ref v0, .int p1, .int p2]) (n := 4) (Nat.le_of_ble_eq_true rfl)
  rw [lg_entry_eq]
  generalize (lg_sl ([.ref v0, .int p1, .int p2]) ++ List.replicate (4 - (lg_sl ([.ref v0, .int p1, .int p2])).length) Slot.unset).toArray = ls at hl ⊢
  have hl : lv_has ls 4 [(0, .ref v0), (1, .int p1), (2, .int p2)] := hl
  refine lv_aload_n hx hb d_Vt_cut_0 rfl (lv_at hl 0 rfl) ?_
  refine lv_aload_n hx hb d_Vt_cut_1 rfl (lv_at hl 0 rfl) ?_
  have hPc := hP.sub (ws' := [(v0, .inr (11, [.ref h0, .ref t0, .ref b0, .ref e0, .ref r0, .ref d0, .ref g0, .ref u0, .ref i0, .ref fa, .ref fw, .int fs, .int he, .int sta, .int lf, .int hru])), (i0, .inr (6, [.ref h0, .int se])), (h0, .inr (0, [.int sec, .ref h1, .int pw])), (h1, .inl (cB, n, .inl f))]) [0, 1, 2, 3] rfl
  have hDc := hD.sub (ws' := [(v0, .inr (11, [.ref h0, .ref t0, .ref b0, .ref e0, .ref r0, .ref d0, .ref g0, .ref u0, .ref i0, .ref fa, .ref fw, .int fs, .int he, .int sta, .int lf, .int hru])), (i0, .inr (6, [.ref h0, .int se])), (h0, .inr (0, [.int sec, .ref h1, .int pw])), (h1, .inl (cB, n, .inl f))]) [0, 1, 2, 3] (by decide) rfl
  have hKc := hK.sub (tys' := [(cB, .byte)]) [0] rfl
  have hFc := va_free (wc := [(v0, .inr (11, [.ref h0, .ref t0, .ref b0, .ref e0, .ref r0, .ref d0, .ref g0, .ref u0, .ref i0, .ref fa, .ref fw, .int fs, .int he, .int sta, .int lf, .int hru])), (i0, .inr (6, [.ref h0, .int se])), (h0, .inr (0, [.int sec, .ref h1, .int pw])), (h1, .inl (cB, n, .inl f))]) hD hS hA [0, 1, 2, 3] rfl
  refine va_calli (va_runV (As := []) (rest := [.ref v0]) ⟨hx, hb, hml, hown, hts⟩ (c_Vt_look2 l dC dI v0 s.heap.size h0 t0 b0 e0 r0 d0 g0 u0 i0 fa fw fs he sta lf hru se h1 cB sec pw n f h4 hn hit) (cwV 0 hts (gwV good_Vt (k_Vt_68) (k_Vt_69) (k_Vt_214) (k_Vt_0) (wcs (k_Vt_70) (fun _ h => h))) rfl rfl rfl (by decide +kernel) ⟨Nat.le_of_ble_eq_true rfl, Nat.le_of_ble_eq_true rfl⟩) (pv_of hPc hKc hDc (va_recv hKc hPc (ci := 11) (q0 := 0) rfl rfl)) rfl rfl hl.1 rfl (lv_room (Nat.le_of_ble_eq_true rfl)) d_Vt_cut_2 ⟨by decide, by decide⟩) hS (fun q _ h => hFc q h) hFc (fun r_1 u t H1 locs ht hvm hw hB hz1 hk1 hS => ?_)
  subst hw
  obtain ⟨hP1, hK1, hD1⟩ := hB
  rw [ht] at hP1
  have hP1 : va_P (dC, dI) classes [(v0, .inr (11, [.ref h0, .ref t0, .ref b0, .ref e0, .ref r0, .ref d0, .ref g0, .ref u0, .ref i0, .ref fa, .ref fw, .int fs, .int he, .int sta, .int lf, .int hru])), (i0, .inr (6, [.ref h0, .int se])), (h0, .inr (0, [.int sec, .ref h1, .int pw])), (h1, .inl (cB, n, .inl f))] H1 := hP1
  have hD1 : va_D _ [(v0, .inr (11, [.ref h0, .ref t0, .ref b0, .ref e0, .ref r0, .ref d0, .ref g0, .ref u0, .ref i0, .ref fa, .ref fw, .int fs, .int he, .int sta, .int lf, .int hru])), (i0, .inr (6, [.ref h0, .int se])), (h0, .inr (0, [.int sec, .ref h1, .int pw])), (h1, .inl (cB, n, .inl f))] := hD1
  obtain ⟨hP, hD⟩ := va_join (wr := []) (w1 := [(v0, .inr (11, [.ref h0, .ref t0, .ref b0, .ref e0, .ref r0, .ref d0, .ref g0, .ref u0, .ref i0, .ref fa, .ref fw, .int fs, .int he, .int sta, .int lf, .int hru])), (i0, .inr (6, [.ref h0, .int se])), (h0, .inr (0, [.int sec, .ref h1, .int pw])), (h1, .inl (cB, n, .inl f))]) hP hD [0, 1, 2, 3] [] rfl rfl (by decide) (by decide) hk1 hFc hP1 hD1
  generalize H1 = H at hP hS ⊢
  have hP : va_P (dC, dI) classes [(v0, .inr (11, [.ref h0, .ref t0, .ref b0, .ref e0, .ref r0, .ref d0, .ref g0, .ref u0, .ref i0, .ref fa, .ref fw, .int fs, .int he, .int sta, .int lf, .int hru])), (i0, .inr (6, [.ref h0, .int se])), (h0, .inr (0, [.int sec, .ref h1, .int pw])), (h1, .inl (cB, n, .inl f))] H := hP
  have hD : va_D A [(v0, .inr (11, [.ref h0, .ref t0, .ref b0, .ref e0, .ref r0, .ref d0, .ref g0, .ref u0, .ref i0, .ref fa, .ref fw, .int fs, .int he, .int sta, .int lf, .int hru])), (i0, .inr (6, [.ref h0, .int se])), (h0, .inr (0, [.int sec, .ref h1, .int pw])), (h1, .inl (cB, n, .inl f))] := hD
  have hPc := hP.sub (ws' := [(v0, .inr (11, [.ref h0, .ref t0, .ref b0, .ref e0, .ref r0, .ref d0, .ref g0, .ref u0, .ref i0, .ref fa, .ref fw, .int fs, .int he, .int sta, .int lf, .int hru]))]) [0] rfl
  have hDc := hD.sub (ws' := [(v0, .inr (11, [.ref h0, .ref t0, .ref b0, .ref e0, .ref r0, .ref d0, .ref g0, .ref u0, .ref i0, .ref fa, .ref fw, .int fs, .int he, .int sta, .int lf, .int hru]))]) [0] (by decide) rfl
  have hKc := hK.sub (tys' := []) [] rfl
  have hFc := va_free (wc := [(v0, .inr (11, [.ref h0, .ref t0, .ref b0, .ref e0, .ref r0, .ref d0, .ref g0, .ref u0, .ref i0, .ref fa, .ref fw, .int fs, .int he, .int sta, .int lf, .int hru]))]) hD hS hA [0] rfl
  exact x_outV (n := 1) (As := [.int 2]) (rest := []) (b := v0) (st0 := [.int 2, .ref v0]) ⟨hx, hb, hml, hown, hts⟩ (cx_Vt_wantSoundTable2 l hfl dC dI v0 H.size h0 t0 b0 e0 r0 d0 g0 u0 i0 fa fw fs he sta lf hru) (cwV 1 hts (gwV good_Vt (k_Vt_166) (k_Vt_167) (k_Vt_216) (k_Vt_0) (wcs (k_Vt_168) (fun _ h => h))) rfl rfl rfl (by decide +kernel) ⟨Nat.le_of_ble_eq_true rfl, Nat.le_of_ble_eq_true rfl⟩) (pv_ofE (fun U V z1 z2 z => x_T.same x_allS z1 z2 z) (fun U z1 z2 => x_T.at x_allS hE z2 (by rw [z1]; exact x_kept.ofS hP0 hAe hS)) hPc hKc hDc (va_recv hKc hPc (ci := 11) (q0 := 0) rfl rfl)) rfl hl.1 rfl (by decide) d_Vt_cut_5 ⟨by decide, by decide⟩ hlocks hout ⟨by decide, by decide⟩ (fun E st t U z1 z2 z3 z4 z5 => x_outQ (wr := [(i0, .inr (6, [.ref h0, .int se])), (h0, .inr (0, [.int sec, .ref h1, .int pw])), (h1, .inl (cB, n, .inl f))]) (w1 := [(v0, .inr (11, [.ref h0, .ref t0, .ref b0, .ref e0, .ref r0, .ref d0, .ref g0, .ref u0, .ref i0, .ref fa, .ref fw, .int fs, .int he, .int sta, .int lf, .int hru]))]) hS hP hD hK [0] [1, 2, 3] rfl rfl (by decide) (by decide) hFc z1 z3 z4 z5) ⟨hS.2.2, fun z h => hFc z h⟩
set_option maxHeartbeats 4000000 in
set_option maxRecDepth 100000 in
/-- remove where there is an inode volume -/
theorem cx_Vt_remove2 (l : Launch) (hfl : l.flags = pinnedFlags ++ [noTraceFlag]) (dC : Nat → ClassId) (dI : Nat → Nat → Nat) (v0 sz h0 t0 b0 e0 r0 d0 g0 u0 i0 fa fw : Nat) (fs he sta lf hru : Int32) (se : Int32) (h1 : Nat) (cB : ClassId) (sec pw : Int32) (n : Nat) (f : Nat → Int32) (h4 : 4 ≤ n) (hn : n < 2 ^ 31) (hit : in_there n f = 1) (p1 : Int32) : MetX l y_Vt_remove (.code y_Vt_remove b_Vt_remove 3 none :: V_Vt) ({ frames := 7, cells := 1, slots := 6, locals := 111 }) (va_Pc [.ref v0, .int p1] (fun U => U.heap.size = sz ∧ at_ (dC, dI) (fun _ => True) [(v0, .inr (11, [.ref h0, .ref t0, .ref b0, .ref e0, .ref r0, .ref d0, .ref g0, .ref u0, .ref i0, .ref fa, .ref fw, .int fs, .int he, .int sta, .int lf, .int hru])), (i0, .inr (6, [.ref h0, .int se])), (h0, .inr (0, [.int sec, .ref h1, .int pw])), (h1, .inl (cB, n, .inl f))] [(cB, .byte)] U ∧ x_T R_Vt 314 "java/lang/IllegalStateException" 335 "no sound table volume" U)) (fun _ _ _ _ => False) (x_Q "java/lang/IllegalStateException" (va_A [(v0, .inr (11, [.ref h0, .ref t0, .ref b0, .ref e0, .ref r0, .ref d0, .ref g0, .ref u0, .ref i0, .ref fa, .ref fw, .int fs, .int he, .int sta, .int lf, .int hru])), (i0, .inr (6, [.ref h0, .int se])), (h0, .inr (0, [.int sec, .ref h1, .int pw])), (h1, .inl (cB, n, .inl f))] sz) (at_ (dC, dI) (va_A [(v0, .inr (11, [.ref h0, .ref t0, .ref b0, .ref e0, .ref r0, .ref d0, .ref g0, .ref u0, .ref i0, .ref fa, .ref fw, .int fs, .int he, .int sta, .int lf, .int hru])), (i0, .inr (6, [.ref h0, .int se])), (h0, .inr (0, [.int sec, .ref h1, .int pw])), (h1, .inl (cB, n, .inl f))] sz) [(i0, .inr (6, [.ref h0, .int se])), (h0, .inr (0, [.int sec, .ref h1, .int pw])), (h1, .inl (cB, n, .inl f)), (v0, .inr (11, [.ref h0, .ref t0, .ref b0, .ref e0, .ref r0, .ref d0, .ref g0, .ref u0, .ref i0, .ref fa, .ref fw, .int fs, .int he, .int sta, .int lf, .int hru]))] [(cB, .byte)])) 1 6 (va_A [(v0, .inr (11, [.ref h0, .ref t0, .ref b0, .ref e0, .ref r0, .ref d0, .ref g0, .ref u0, .ref i0, .ref fa, .ref fw, .int fs, .int he, .int sta, .int lf, .int hru])), (i0, .inr (6, [.ref h0, .int se])), (h0, .inr (0, [.int sec, .ref h1, .int pw])), (h1, .inl (cB, n, .inl f))] sz) := by
  refine MetX.ofW (cc := b_Vt_remove) (maxL := 3) (ret := none) (by decide) rfl ?_
  intro p e s m args below meth c s₁ B hml hv
  obtain ⟨rfl, hsz, ⟨hP, hK, hD0⟩, hE⟩ := hv
  have hx := B.exec
  have hb := B.bytes
  have hr := B.returns
  have hts0 := atoms_spec (ws := .code y_Vt_remove b_Vt_remove 3 none :: V_Vt) B.pre
  have hts : ∀ w ∈ V_Vt, w.before ([.ref v0, .int p1] : List Value).toArray s = true := fun w h => hts0 w (List.mem_cons_of_mem _ h)
  have hown : s.vm.findClass R_Vt = some m.cls := findClass_of_methodNamed B.named
  have hlocks := B.notSynchronized
  subst hsz
  have hD := hD0.self (sz := s.heap.size)
  generalize hAe : va_A [(v0, .inr (11, [.ref h0, .ref t0, .ref b0, .ref e0, .ref r0, .ref d0, .ref g0, .ref u0, .ref i0, .ref fa, .ref fw, .int fs, .int he, .int sta, .int lf, .int hru])), (i0, .inr (6, [.ref h0, .int se])), (h0, .inr (0, [.int sec, .ref h1, .int pw])), (h1, .inl (cB, n, .inl f))] s.heap.size = A at hD ⊢
  have hA : ∀ q : Nat, s.heap.size ≤ q → A q := fun q h => by rw [← hAe]; exact Or.inr h
  have hS : va_S A s.heap s.heap [] := va_S.rf
  have hP : va_P (dC, dI) classes [(v0, .inr (11, [.ref h0, .ref t0, .ref b0, .ref e0, .ref r0, .ref d0, .ref g0, .ref u0, .ref i0, .ref fa, .ref fw, .int fs, .int he, .int sta, .int lf, .int hru])), (i0, .inr (6, [.ref h0, .int se])), (h0, .inr (0, [.int sec, .ref h1, .int pw])), (h1, .inl (cB, n, .inl f))] s.heap := hP
  have hK : va_K (dC, dI) classes [(cB, .byte)] s := hK
  have hP0 := hP
  have hout := x_table B (hts0 _ List.mem_cons_self)
  have hl := lv_entry ([.ref v0, .int p1]) (n := 3) (Nat.le_of_ble_eq_true rfl)
  rw [lg_entry_eq]
  generalize (lg_sl ([.ref v0, .int p1]) ++ List.replicate (3 - (lg_sl ([.ref v0, .int p1])).length) Slot.unset).toArray = ls at hl ⊢
  have hl : lv_has ls 3 [(0, .ref v0), (1, .int p1)] := hl
  refine lv_aload_n hx hb d_Vt_remove_0 rfl (lv_at hl 0 rfl) ?_
  refine lv_aload_n hx hb d_Vt_remove_1 rfl (lv_at hl 0 rfl) ?_
  have hPc := hP.sub (ws' := [(v0, .inr (11, [.ref h0, .ref t0, .ref b0, .ref e0, .ref r0, .ref d0, .ref g0, .ref u0, .ref i0, .ref fa, .ref fw, .int fs, .int he, .int sta, .int lf, .int hru])), (i0, .inr (6, [.ref h0, .int se])), (h0, .inr (0, [.int sec, .ref h1, .int pw])), (h1, .inl (cB, n, .inl f))]) [0, 1, 2, 3] rfl
  have hDc := hD.sub (ws' := [(v0, .inr (11, [.ref h0, .ref t0, .ref b0, .ref e0, .ref r0, .ref d0, .ref g0, .ref u0, .ref i0, .ref fa, .ref fw, .int fs, .int he, .int sta, .int lf, .int hru])), (i0, .inr (6, [.ref h0, .int se])), (h0, .inr (0, [.int sec, .ref h1, .int pw])), (h1, .inl (cB, n, .inl f))]) [0, 1, 2, 3] (by decide) rfl
  have hKc := hK.sub (tys' := [(cB, .byte)]) [0] rfl
  have hFc := va_free (wc := [(v0, .inr (11, [.ref h0, .ref t0, .ref b0, .ref e0, .ref r0, .ref d0, .ref g0, .ref u0, .ref i0, .ref fa, .ref fw, .int fs, .int he, .int sta, .int lf, .int hru])), (i0, .inr (6, [.ref h0, .int se])), (h0, .inr (0, [.int sec, .ref h1, .int pw])), (h1, .inl (cB, n, .inl f))]) hD hS hA [0, 1, 2, 3] rfl
  refine va_calli (va_runV (As := []) (rest := [.ref v0]) ⟨hx, hb, hml, hown, hts⟩ (c_Vt_look2 l dC dI v0 s.heap.size h0 t0 b0 e0 r0 d0 g0 u0 i0 fa fw fs he sta lf hru se h1 cB sec pw n f h4 hn hit) (cwV 0 hts (gwV good_Vt (k_Vt_68) (k_Vt_69) (k_Vt_214) (k_Vt_0) (wcs (k_Vt_70) (fun _ h => h))) rfl rfl rfl (by decide +kernel) ⟨Nat.le_of_ble_eq_true rfl, Nat.le_of_ble_eq_true rfl⟩) (pv_of hPc hKc hDc (va_recv hKc hPc (ci := 11) (q0 := 0) rfl rfl)) rfl rfl hl.1 rfl (lv_room (Nat.le_of_ble_eq_true rfl)) d_Vt_remove_2 ⟨by decide, by decide⟩) hS (fun q _ h => hFc q h) hFc (fun r_1 u t H1 locs ht hvm hw hB hz1 hk1 hS => ?_)
  subst hw
  obtain ⟨hP1, hK1, hD1⟩ := hB
  rw [ht] at hP1
  have hP1 : va_P (dC, dI) classes [(v0, .inr (11, [.ref h0, .ref t0, .ref b0, .ref e0, .ref r0, .ref d0, .ref g0, .ref u0, .ref i0, .ref fa, .ref fw, .int fs, .int he, .int sta, .int lf, .int hru])), (i0, .inr (6, [.ref h0, .int se])), (h0, .inr (0, [.int sec, .ref h1, .int pw])), (h1, .inl (cB, n, .inl f))] H1 := hP1
  have hD1 : va_D _ [(v0, .inr (11, [.ref h0, .ref t0, .ref b0, .ref e0, .ref r0, .ref d0, .ref g0, .ref u0, .ref i0, .ref fa, .ref fw, .int fs, .int he, .int sta, .int lf, .int hru])), (i0, .inr (6, [.ref h0, .int se])), (h0, .inr (0, [.int sec, .ref h1, .int pw])), (h1, .inl (cB, n, .inl f))] := hD1
  obtain ⟨hP, hD⟩ := va_join (wr := []) (w1 := [(v0, .inr (11, [.ref h0, .ref t0, .ref b0, .ref e0, .ref r0, .ref d0, .ref g0, .ref u0, .ref i0, .ref fa, .ref fw, .int fs, .int he, .int sta, .int lf, .int hru])), (i0, .inr (6, [.ref h0, .int se])), (h0, .inr (0, [.int sec, .ref h1, .int pw])), (h1, .inl (cB, n, .inl f))]) hP hD [0, 1, 2, 3] [] rfl rfl (by decide) (by decide) hk1 hFc hP1 hD1
  generalize H1 = H at hP hS ⊢
  have hP : va_P (dC, dI) classes [(v0, .inr (11, [.ref h0, .ref t0, .ref b0, .ref e0, .ref r0, .ref d0, .ref g0, .ref u0, .ref i0, .ref fa, .ref fw, .int fs, .int he, .int sta, .int lf, .int hru])), (i0, .inr (6, [.ref h0, .int se])), (h0, .inr (0, [.int sec, .ref h1, .int pw])), (h1, .inl (cB, n, .inl f))] H := hP
  have hD : va_D A [(v0, .inr (11, [.ref h0, .ref t0, .ref b0, .ref e0, .ref r0, .ref d0, .ref g0, .ref u0, .ref i0, .ref fa, .ref fw, .int fs, .int he, .int sta, .int lf, .int hru])), (i0, .inr (6, [.ref h0, .int se])), (h0, .inr (0, [.int sec, .ref h1, .int pw])), (h1, .inl (cB, n, .inl f))] := hD
  have hPc := hP.sub (ws' := [(v0, .inr (11, [.ref h0, .ref t0, .ref b0, .ref e0, .ref r0, .ref d0, .ref g0, .ref u0, .ref i0, .ref fa, .ref fw, .int fs, .int he, .int sta, .int lf, .int hru]))]) [0] rfl
  have hDc := hD.sub (ws' := [(v0, .inr (11, [.ref h0, .ref t0, .ref b0, .ref e0, .ref r0, .ref d0, .ref g0, .ref u0, .ref i0, .ref fa, .ref fw, .int fs, .int he, .int sta, .int lf, .int hru]))]) [0] (by decide) rfl
  have hKc := hK.sub (tys' := []) [] rfl
  have hFc := va_free (wc := [(v0, .inr (11, [.ref h0, .ref t0, .ref b0, .ref e0, .ref r0, .ref d0, .ref g0, .ref u0, .ref i0, .ref fa, .ref fw, .int fs, .int he, .int sta, .int lf, .int hru]))]) hD hS hA [0] rfl
  exact x_outV (n := 1) (As := [.int 2]) (rest := []) (b := v0) (st0 := [.int 2, .ref v0]) ⟨hx, hb, hml, hown, hts⟩ (cx_Vt_wantSoundTable2 l hfl dC dI v0 H.size h0 t0 b0 e0 r0 d0 g0 u0 i0 fa fw fs he sta lf hru) (cwV 1 hts (gwV good_Vt (k_Vt_166) (k_Vt_167) (k_Vt_216) (k_Vt_0) (wcs (k_Vt_168) (fun _ h => h))) rfl rfl rfl (by decide +kernel) ⟨Nat.le_of_ble_eq_true rfl, Nat.le_of_ble_eq_true rfl⟩) (pv_ofE (fun U V z1 z2 z => x_T.same x_allS z1 z2 z) (fun U z1 z2 => x_T.at x_allS hE z2 (by rw [z1]; exact x_kept.ofS hP0 hAe hS)) hPc hKc hDc (va_recv hKc hPc (ci := 11) (q0 := 0) rfl rfl)) rfl hl.1 rfl (by decide) d_Vt_remove_5 ⟨by decide, by decide⟩ hlocks hout ⟨by decide, by decide⟩ (fun E st t U z1 z2 z3 z4 z5 => x_outQ (wr := [(i0, .inr (6, [.ref h0, .int se])), (h0, .inr (0, [.int sec, .ref h1, .int pw])), (h1, .inl (cB, n, .inl f))]) (w1 := [(v0, .inr (11, [.ref h0, .ref t0, .ref b0, .ref e0, .ref r0, .ref d0, .ref g0, .ref u0, .ref i0, .ref fa, .ref fw, .int fs, .int he, .int sta, .int lf, .int hru]))]) hS hP hD hK [0] [1, 2, 3] rfl rfl (by decide) (by decide) hFc z1 z3 z4 z5) ⟨hS.2.2, fun z h => hFc z h⟩
set_option maxHeartbeats 4000000 in
set_option maxRecDepth 100000 in
/-- stamp where there is an inode volume -/
theorem cx_Vt_stamp2 (l : Launch) (hfl : l.flags = pinnedFlags ++ [noTraceFlag]) (dC : Nat → ClassId) (dI : Nat → Nat → Nat) (v0 sz h0 t0 b0 e0 r0 d0 g0 u0 i0 fa fw : Nat) (fs he sta lf hru : Int32) (se : Int32) (h1 : Nat) (cB : ClassId) (sec pw : Int32) (n : Nat) (f : Nat → Int32) (h4 : 4 ≤ n) (hn : n < 2 ^ 31) (hit : in_there n f = 1) (p1 p2 p3 p4 : Int32) : MetX l y_Vt_stamp (.code y_Vt_stamp b_Vt_stamp 7 none :: V_Vt) ({ frames := 7, cells := 1, slots := 6, locals := 111 }) (va_Pc [.ref v0, .int p1, .int p2, .int p3, .int p4] (fun U => U.heap.size = sz ∧ at_ (dC, dI) (fun _ => True) [(v0, .inr (11, [.ref h0, .ref t0, .ref b0, .ref e0, .ref r0, .ref d0, .ref g0, .ref u0, .ref i0, .ref fa, .ref fw, .int fs, .int he, .int sta, .int lf, .int hru])), (i0, .inr (6, [.ref h0, .int se])), (h0, .inr (0, [.int sec, .ref h1, .int pw])), (h1, .inl (cB, n, .inl f))] [(cB, .byte)] U ∧ x_T R_Vt 314 "java/lang/IllegalStateException" 335 "no sound table volume" U)) (fun _ _ _ _ => False) (x_Q "java/lang/IllegalStateException" (va_A [(v0, .inr (11, [.ref h0, .ref t0, .ref b0, .ref e0, .ref r0, .ref d0, .ref g0, .ref u0, .ref i0, .ref fa, .ref fw, .int fs, .int he, .int sta, .int lf, .int hru])), (i0, .inr (6, [.ref h0, .int se])), (h0, .inr (0, [.int sec, .ref h1, .int pw])), (h1, .inl (cB, n, .inl f))] sz) (at_ (dC, dI) (va_A [(v0, .inr (11, [.ref h0, .ref t0, .ref b0, .ref e0, .ref r0, .ref d0, .ref g0, .ref u0, .ref i0, .ref fa, .ref fw, .int fs, .int he, .int sta, .int lf, .int hru])), (i0, .inr (6, [.ref h0, .int se])), (h0, .inr (0, [.int sec, .ref h1, .int pw])), (h1, .inl (cB, n, .inl f))] sz) [(i0, .inr (6, [.ref h0, .int se])), (h0, .inr (0, [.int sec, .ref h1, .int pw])), (h1, .inl (cB, n, .inl f)), (v0, .inr (11, [.ref h0, .ref t0, .ref b0, .ref e0, .ref r0, .ref d0, .ref g0, .ref u0, .ref i0, .ref fa, .ref fw, .int fs, .int he, .int sta, .int lf, .int hru]))] [(cB, .byte)])) 1 6 (va_A [(v0, .inr (11, [.ref h0, .ref t0, .ref b0, .ref e0, .ref r0, .ref d0, .ref g0, .ref u0, .ref i0, .ref fa, .ref fw, .int fs, .int he, .int sta, .int lf, .int hru])), (i0, .inr (6, [.ref h0, .int se])), (h0, .inr (0, [.int sec, .ref h1, .int pw])), (h1, .inl (cB, n, .inl f))] sz) := by
  refine MetX.ofW (cc := b_Vt_stamp) (maxL := 7) (ret := none) (by decide) rfl ?_
  intro p e s m args below meth c s₁ B hml hv
  obtain ⟨rfl, hsz, ⟨hP, hK, hD0⟩, hE⟩ := hv
  have hx := B.exec
  have hb := B.bytes
  have hr := B.returns
  have hts0 := atoms_spec (ws := .code y_Vt_stamp b_Vt_stamp 7 none :: V_Vt) B.pre
  have hts : ∀ w ∈ V_Vt, w.before ([.ref v0, .int p1, .int p2, .int p3, .int p4] : List Value).toArray s = true := fun w h => hts0 w (List.mem_cons_of_mem _ h)
  have hown : s.vm.findClass R_Vt = some m.cls := findClass_of_methodNamed B.named
  have hlocks := B.notSynchronized
  subst hsz
  have hD := hD0.self (sz := s.heap.size)
  generalize hAe : va_A [(v0, .inr (11, [.ref h0, .ref t0, .ref b0, .ref e0, .ref r0, .ref d0, .ref g0, .ref u0, .ref i0, .ref fa, .ref fw, .int fs, .int he, .int sta, .int lf, .int hru])), (i0, .inr (6, [.ref h0, .int se])), (h0, .inr (0, [.int sec, .ref h1, .int pw])), (h1, .inl (cB, n, .inl f))] s.heap.size = A at hD ⊢
  have hA : ∀ q : Nat, s.heap.size ≤ q → A q := fun q h => by rw [← hAe]; exact Or.inr h
  have hS : va_S A s.heap s.heap [] := va_S.rf
  have hP : va_P (dC, dI) classes [(v0, .inr (11, [.ref h0, .ref t0, .ref b0, .ref e0, .ref r0, .ref d0, .ref g0, .ref u0, .ref i0, .ref fa, .ref fw, .int fs, .int he, .int sta, .int lf, .int hru])), (i0, .inr (6, [.ref h0, .int se])), (h0, .inr (0, [.int sec, .ref h1, .int pw])), (h1, .inl (cB, n, .inl f))] s.heap := hP
  have hK : va_K (dC, dI) classes [(cB, .byte)] s := hK
  have hP0 := hP
  have hout := x_table B (hts0 _ List.mem_cons_self)
  have hl := lv_entry ([.ref v0, .int p1, .int p2, .int p3, .int p4]) (n := 7) (Nat.le_of_ble_eq_true rfl)
  rw [lg_entry_eq]
  generalize (lg_sl ([.ref v0, .int p1, .int p2, .int p3, .int p4]) ++ List.replicate (7 - (lg_sl ([.ref v0, .int p1, .int p2, .int p3, .int p4])).length) Slot.unset).toArray = ls at hl ⊢
  have hl : lv_has ls 7 [(0, .ref v0), (1, .int p1), (2, .int p2), (3, .int p3), (4, .int p4)] := hl
  refine lv_aload_n hx hb d_Vt_stamp_0 rfl (lv_at hl 0 rfl) ?_
  refine lv_aload_n hx hb d_Vt_stamp_1 rfl (lv_at hl 0 rfl) ?_
  have hPc := hP.sub (ws' := [(v0, .inr (11, [.ref h0, .ref t0, .ref b0, .ref e0, .ref r0, .ref d0, .ref g0, .ref u0, .ref i0, .ref fa, .ref fw, .int fs, .int he, .int sta, .int lf, .int hru])), (i0, .inr (6, [.ref h0, .int se])), (h0, .inr (0, [.int sec, .ref h1, .int pw])), (h1, .inl (cB, n, .inl f))]) [0, 1, 2, 3] rfl
  have hDc := hD.sub (ws' := [(v0, .inr (11, [.ref h0, .ref t0, .ref b0, .ref e0, .ref r0, .ref d0, .ref g0, .ref u0, .ref i0, .ref fa, .ref fw, .int fs, .int he, .int sta, .int lf, .int hru])), (i0, .inr (6, [.ref h0, .int se])), (h0, .inr (0, [.int sec, .ref h1, .int pw])), (h1, .inl (cB, n, .inl f))]) [0, 1, 2, 3] (by decide) rfl
  have hKc := hK.sub (tys' := [(cB, .byte)]) [0] rfl
  have hFc := va_free (wc := [(v0, .inr (11, [.ref h0, .ref t0, .ref b0, .ref e0, .ref r0, .ref d0, .ref g0, .ref u0, .ref i0, .ref fa, .ref fw, .int fs, .int he, .int sta, .int lf, .int hru])), (i0, .inr (6, [.ref h0, .int se])), (h0, .inr (0, [.int sec, .ref h1, .int pw])), (h1, .inl (cB, n, .inl f))]) hD hS hA [0, 1, 2, 3] rfl
  refine va_calli (va_runV (As := []) (rest := [.ref v0]) ⟨hx, hb, hml, hown, hts⟩ (c_Vt_look2 l dC dI v0 s.heap.size h0 t0 b0 e0 r0 d0 g0 u0 i0 fa fw fs he sta lf hru se h1 cB sec pw n f h4 hn hit) (cwV 0 hts (gwV good_Vt (k_Vt_68) (k_Vt_69) (k_Vt_214) (k_Vt_0) (wcs (k_Vt_70) (fun _ h => h))) rfl rfl rfl (by decide +kernel) ⟨Nat.le_of_ble_eq_true rfl, Nat.le_of_ble_eq_true rfl⟩) (pv_of hPc hKc hDc (va_recv hKc hPc (ci := 11) (q0 := 0) rfl rfl)) rfl rfl hl.1 rfl (lv_room (Nat.le_of_ble_eq_true rfl)) d_Vt_stamp_2 ⟨by decide, by decide⟩) hS (fun q _ h => hFc q h) hFc (fun r_1 u t H1 locs ht hvm hw hB hz1 hk1 hS => ?_)
  subst hw
  obtain ⟨hP1, hK1, hD1⟩ := hB
  rw [ht] at hP1
  have hP1 : va_P (dC, dI) classes [(v0, .inr (11, [.ref h0, .ref t0, .ref b0, .ref e0, .ref r0, .ref d0, .ref g0, .ref u0, .ref i0, .ref fa, .ref fw, .int fs, .int he, .int sta, .int lf, .int hru])), (i0, .inr (6, [.ref h0, .int se])), (h0, .inr (0, [.int sec, .ref h1, .int pw])), (h1, .inl (cB, n, .inl f))] H1 := hP1
  have hD1 : va_D _ [(v0, .inr (11, [.ref h0, .ref t0, .ref b0, .ref e0, .ref r0, .ref d0, .ref g0, .ref u0, .ref i0, .ref fa, .ref fw, .int fs, .int he, .int sta, .int lf, .int hru])), (i0, .inr (6, [.ref h0, .int se])), (h0, .inr (0, [.int sec, .ref h1, .int pw])), (h1, .inl (cB, n, .inl f))] := hD1
  obtain ⟨hP, hD⟩ := va_join (wr := []) (w1 := [(v0, .inr (11, [.ref h0, .ref t0, .ref b0, .ref e0, .ref r0, .ref d0, .ref g0, .ref u0, .ref i0, .ref fa, .ref fw, .int fs, .int he, .int sta, .int lf, .int hru])), (i0, .inr (6, [.ref h0, .int se])), (h0, .inr (0, [.int sec, .ref h1, .int pw])), (h1, .inl (cB, n, .inl f))]) hP hD [0, 1, 2, 3] [] rfl rfl (by decide) (by decide) hk1 hFc hP1 hD1
  generalize H1 = H at hP hS ⊢
  have hP : va_P (dC, dI) classes [(v0, .inr (11, [.ref h0, .ref t0, .ref b0, .ref e0, .ref r0, .ref d0, .ref g0, .ref u0, .ref i0, .ref fa, .ref fw, .int fs, .int he, .int sta, .int lf, .int hru])), (i0, .inr (6, [.ref h0, .int se])), (h0, .inr (0, [.int sec, .ref h1, .int pw])), (h1, .inl (cB, n, .inl f))] H := hP
  have hD : va_D A [(v0, .inr (11, [.ref h0, .ref t0, .ref b0, .ref e0, .ref r0, .ref d0, .ref g0, .ref u0, .ref i0, .ref fa, .ref fw, .int fs, .int he, .int sta, .int lf, .int hru])), (i0, .inr (6, [.ref h0, .int se])), (h0, .inr (0, [.int sec, .ref h1, .int pw])), (h1, .inl (cB, n, .inl f))] := hD
  have hPc := hP.sub (ws' := [(v0, .inr (11, [.ref h0, .ref t0, .ref b0, .ref e0, .ref r0, .ref d0, .ref g0, .ref u0, .ref i0, .ref fa, .ref fw, .int fs, .int he, .int sta, .int lf, .int hru]))]) [0] rfl
  have hDc := hD.sub (ws' := [(v0, .inr (11, [.ref h0, .ref t0, .ref b0, .ref e0, .ref r0, .ref d0, .ref g0, .ref u0, .ref i0, .ref fa, .ref fw, .int fs, .int he, .int sta, .int lf, .int hru]))]) [0] (by decide) rfl
  have hKc := hK.sub (tys' := []) [] rfl
  have hFc := va_free (wc := [(v0, .inr (11, [.ref h0, .ref t0, .ref b0, .ref e0, .ref r0, .ref d0, .ref g0, .ref u0, .ref i0, .ref fa, .ref fw, .int fs, .int he, .int sta, .int lf, .int hru]))]) hD hS hA [0] rfl
  exact x_outV (n := 1) (As := [.int 2]) (rest := []) (b := v0) (st0 := [.int 2, .ref v0]) ⟨hx, hb, hml, hown, hts⟩ (cx_Vt_wantSoundTable2 l hfl dC dI v0 H.size h0 t0 b0 e0 r0 d0 g0 u0 i0 fa fw fs he sta lf hru) (cwV 1 hts (gwV good_Vt (k_Vt_166) (k_Vt_167) (k_Vt_216) (k_Vt_0) (wcs (k_Vt_168) (fun _ h => h))) rfl rfl rfl (by decide +kernel) ⟨Nat.le_of_ble_eq_true rfl, Nat.le_of_ble_eq_true rfl⟩) (pv_ofE (fun U V z1 z2 z => x_T.same x_allS z1 z2 z) (fun U z1 z2 => x_T.at x_allS hE z2 (by rw [z1]; exact x_kept.ofS hP0 hAe hS)) hPc hKc hDc (va_recv hKc hPc (ci := 11) (q0 := 0) rfl rfl)) rfl hl.1 rfl (by decide) d_Vt_stamp_5 ⟨by decide, by decide⟩ hlocks hout ⟨by decide, by decide⟩ (fun E st t U z1 z2 z3 z4 z5 => x_outQ (wr := [(i0, .inr (6, [.ref h0, .int se])), (h0, .inr (0, [.int sec, .ref h1, .int pw])), (h1, .inl (cB, n, .inl f))]) (w1 := [(v0, .inr (11, [.ref h0, .ref t0, .ref b0, .ref e0, .ref r0, .ref d0, .ref g0, .ref u0, .ref i0, .ref fa, .ref fw, .int fs, .int he, .int sta, .int lf, .int hru]))]) hS hP hD hK [0] [1, 2, 3] rfl rfl (by decide) (by decide) hFc z1 z3 z4 z5) ⟨hS.2.2, fun z h => hFc z h⟩
