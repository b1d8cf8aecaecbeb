set_option maxHeartbeats 4000000 in
set_option maxRecDepth 100000 in
/-- how many items a directory has -/
theorem c_In_countIn (l : Launch) (dC : Nat → ClassId) (dI : Nat → Nat → Nat) (i0 h0 sz : Nat) (se : Int32) (h1 : Nat) (cB : ClassId) (sec pw : Int32) (n : Nat) (f : Nat → Int32) (h4 : 4 ≤ n) (hn : n < 2 ^ 31) (p1 : Int32) : Met l y_In_countIn (.code y_In_countIn b_In_countIn 2 (some .int) :: V_In) ({ frames := 3, cells := 0, slots := 0, locals := 87 }) (va_Pc [.ref i0, .int p1] (fun U => U.heap.size = sz ∧ at_ (dC, dI) (fun _ => True) [(i0, .inr (6, [.ref h0, .int se])), (h0, .inr (0, [.int sec, .ref h1, .int pw])), (h1, .inl (cB, n, .inl f))] [(cB, .byte)] U)) (va_Qi (fun (r : Int32) (u : Unit) => r = (in_find n f p1 (-1)).2 - 2) (fun (u : Unit) t => at_ (dC, dI) (va_A [(i0, .inr (6, [.ref h0, .int se])), (h0, .inr (0, [.int sec, .ref h1, .int pw])), (h1, .inl (cB, n, .inl f))] sz) [(i0, .inr (6, [.ref h0, .int ((in_find n f p1 (-1)).2)])), (h0, .inr (0, [.int sec, .ref h1, .int pw])), (h1, .inl (cB, n, .inl f))] [(cB, .byte)] t) (va_A [(i0, .inr (6, [.ref h0, .int se])), (h0, .inr (0, [.int sec, .ref h1, .int pw])), (h1, .inl (cB, n, .inl f))] sz)) 0 0 (va_A [(i0, .inr (6, [.ref h0, .int se])), (h0, .inr (0, [.int sec, .ref h1, .int pw])), (h1, .inl (cB, n, .inl f))] sz) := by
  refine Met.ofW (cc := b_In_countIn) (maxL := 2) (ret := (some .int)) (by decide) rfl ?_
  intro p e s m args below meth c s₁ B hml hv
  obtain ⟨rfl, hsz, hP, hK, hD0⟩ := hv
  have hx := B.exec
  have hb := B.bytes
  have hr := B.returns
  have hts0 := atoms_spec (ws := .code y_In_countIn b_In_countIn 2 (some .int) :: V_In) B.pre
  have hts : ∀ w ∈ V_In, w.before ([.ref i0, .int p1] : List Value).toArray s = true := fun w h => hts0 w (List.mem_cons_of_mem _ h)
  have hown : s.vm.findClass R_In = some m.cls := findClass_of_methodNamed B.named
  have hlocks := B.notSynchronized
  subst hsz
  have hD := hD0.self (sz := s.heap.size)
  generalize hAe : va_A [(i0, .inr (6, [.ref h0, .int se])), (h0, .inr (0, [.int sec, .ref h1, .int pw])), (h1, .inl (cB, n, .inl f))] s.heap.size = A at hD ⊢
  have hA : ∀ q : Nat, s.heap.size ≤ q → A q := fun q h => by rw [← hAe]; exact Or.inr h
  have hS : va_S A s.heap s.heap [] := va_S.rf
  have hP : va_P (dC, dI) classes [(i0, .inr (6, [.ref h0, .int se])), (h0, .inr (0, [.int sec, .ref h1, .int pw])), (h1, .inl (cB, n, .inl f))] s.heap := hP
  have hK : va_K (dC, dI) classes [(cB, .byte)] s := hK
  have hl := lv_entry ([.ref i0, .int p1]) (n := 2) (Nat.le_of_ble_eq_true rfl)
  rw [lg_entry_eq]
  generalize (lg_sl ([.ref i0, .int p1]) ++ List.replicate (2 - (lg_sl ([.ref i0, .int p1])).length) Slot.unset).toArray = ls at hl ⊢
  have hl : lv_has ls 2 [(0, .ref i0), (1, .int p1)] := hl
  refine lv_aload_n hx hb d_In_countIn_0 rfl (lv_at hl 0 rfl) ?_
  refine lv_iload_n hx hb d_In_countIn_1 rfl (lv_at hl 1 rfl) ?_
  refine lv_iconst (v := (-1)) hx hb d_In_countIn_2 (by decide) ?_
  have hPc := hP.sub (ws' := [(i0, .inr (6, [.ref h0, .int se])), (h0, .inr (0, [.int sec, .ref h1, .int pw])), (h1, .inl (cB, n, .inl f))]) [0, 1, 2] rfl
  have hDc := hD.sub (ws' := [(i0, .inr (6, [.ref h0, .int se])), (h0, .inr (0, [.int sec, .ref h1, .int pw])), (h1, .inl (cB, n, .inl f))]) [0, 1, 2] (by decide) rfl
  have hKc := hK.sub (tys' := [(cB, .byte)]) [0] rfl
  have hFc := va_free (wc := [(i0, .inr (6, [.ref h0, .int se])), (h0, .inr (0, [.int sec, .ref h1, .int pw])), (h1, .inl (cB, n, .inl f))]) hD hS hA [0, 1, 2] rfl
  refine va_calli (va_runV (As := [.int p1, .int ((-1))]) (rest := []) ⟨hx, hb, hml, hown, hts⟩ (c_In_findEntry l dC dI i0 h0 s.heap.size se h1 cB sec pw n f h4 hn p1 ((-1))) (cwV 2 hts (gwV good_In (k_In_29) (k_In_30) (k_In_31) (k_In_0) (wcs (k_In_32) (fun _ h => h))) rfl rfl rfl (by decide +kernel) ⟨Nat.le_of_ble_eq_true rfl, Nat.le_of_ble_eq_true rfl⟩) (pv_of hPc hKc hDc (va_recv hKc hPc (ci := 6) (q0 := 0) rfl rfl)) rfl rfl hl.1 rfl (lv_room (Nat.le_of_ble_eq_true rfl)) d_In_countIn_3 ⟨by decide, by decide⟩) hS (fun q _ h => hFc q h) hFc (fun r_1 u t H1 locs ht hvm hw hB hz1 hk1 hS => ?_)
  have hr9 : r_1 = (in_find n f p1 ((-1))).1 := by rw [← hw]
  have hu9 : u = (in_find n f p1 ((-1))).2 := by rw [← hw]
  rw [hr9]
  clear hr9 hw
  subst hu9
  obtain ⟨hP1, hK1, hD1⟩ := hB
  rw [ht] at hP1
  have hP1 : va_P (dC, dI) classes [(i0, .inr (6, [.ref h0, .int ((in_find n f p1 ((-1))).2)])), (h0, .inr (0, [.int sec, .ref h1, .int pw])), (h1, .inl (cB, n, .inl f))] H1 := hP1
  have hD1 : va_D _ [(i0, .inr (6, [.ref h0, .int ((in_find n f p1 ((-1))).2)])), (h0, .inr (0, [.int sec, .ref h1, .int pw])), (h1, .inl (cB, n, .inl f))] := hD1
  obtain ⟨hP, hD⟩ := va_join (wr := []) (w1 := [(i0, .inr (6, [.ref h0, .int ((in_find n f p1 ((-1))).2)])), (h0, .inr (0, [.int sec, .ref h1, .int pw])), (h1, .inl (cB, n, .inl f))]) hP hD [0, 1, 2] [] rfl rfl (by decide) (by decide) hk1 hFc hP1 hD1
  generalize H1 = H at hP hS ⊢
  have hP : va_P (dC, dI) classes [(i0, .inr (6, [.ref h0, .int ((in_find n f p1 ((-1))).2)])), (h0, .inr (0, [.int sec, .ref h1, .int pw])), (h1, .inl (cB, n, .inl f))] H := hP
  have hD : va_D A [(i0, .inr (6, [.ref h0, .int ((in_find n f p1 ((-1))).2)])), (h0, .inr (0, [.int sec, .ref h1, .int pw])), (h1, .inl (cB, n, .inl f))] := hD
  refine lv_pop hx hb d_In_countIn_6 rfl ?_
  refine lv_aload_n hx hb d_In_countIn_7 rfl (lv_at hl 0 rfl) ?_
  refine va_get (D := (dC, dI)) (ci := 6) (v := .int ((in_find n f p1 ((-1))).2)) (C := R_In) (T := F_In) (N := 2) hx hb hts i_In hown hK hP 0 rfl rfl 1 (by decide) (hts _ (k_In_6)) (fun _ h9 => h9) rfl d_In_countIn_8 ?_
  refine lv_iconst (v := 2) hx hb d_In_countIn_11 (by decide) ?_
  refine lv_isub hx hb d_In_countIn_12 ?_
  exact W.iret (v := (((in_find n f p1 ((-1))).2) - 2)) hx hb hr (fun t ht hW => ⟨⟨(((in_find n f p1 ((-1))).2) - 2), (), rfl, rfl, by rw [ht]; exact hP, va_K.moved hW.alike hK, hD⟩, hS.F ht⟩) hS.2.2 d_In_countIn_13
def in_par (n : Nat) (f : Nat → Int32) (p1 : Int32) : Int32 := if in_iof n f (in_find n f p1 1).1 = 2 then 0 else in_iof n f (in_find n f p1 1).1
set_option maxHeartbeats 4000000 in
set_option maxRecDepth 100000 in
/-- HERE of the parent -/
theorem c_In_parentOf (l : Launch) (dC : Nat → ClassId) (dI : Nat → Nat → Nat) (i0 h0 sz : Nat) (se : Int32) (h1 : Nat) (cB : ClassId) (sec pw : Int32) (n : Nat) (f : Nat → Int32) (h4 : 4 ≤ n) (hn : n < 2 ^ 31) (p1 : Int32) : Met l y_In_parentOf (.code y_In_parentOf b_In_parentOf 3 (some .int) :: V_In) ({ frames := 3, cells := 0, slots := 0, locals := 87 }) (va_Pc [.ref i0, .int p1] (fun U => U.heap.size = sz ∧ at_ (dC, dI) (fun _ => True) [(i0, .inr (6, [.ref h0, .int se])), (h0, .inr (0, [.int sec, .ref h1, .int pw])), (h1, .inl (cB, n, .inl f))] [(cB, .byte)] U)) (va_Qi (fun (r : Int32) (u : Unit) => r = in_par n f p1) (fun (u : Unit) t => at_ (dC, dI) (va_A [(i0, .inr (6, [.ref h0, .int se])), (h0, .inr (0, [.int sec, .ref h1, .int pw])), (h1, .inl (cB, n, .inl f))] sz) [(i0, .inr (6, [.ref h0, .int ((in_find n f p1 1).2)])), (h0, .inr (0, [.int sec, .ref h1, .int pw])), (h1, .inl (cB, n, .inl f))] [(cB, .byte)] t) (va_A [(i0, .inr (6, [.ref h0, .int se])), (h0, .inr (0, [.int sec, .ref h1, .int pw])), (h1, .inl (cB, n, .inl f))] sz)) 0 0 (va_A [(i0, .inr (6, [.ref h0, .int se])), (h0, .inr (0, [.int sec, .ref h1, .int pw])), (h1, .inl (cB, n, .inl f))] sz) := by
  refine Met.ofW (cc := b_In_parentOf) (maxL := 3) (ret := (some .int)) (by decide) rfl ?_
  intro p e s m args below meth c s₁ B hml hv
  obtain ⟨rfl, hsz, hP, hK, hD0⟩ := hv
  have hx := B.exec
  have hb := B.bytes
  have hr := B.returns
  have hts0 := atoms_spec (ws := .code y_In_parentOf b_In_parentOf 3 (some .int) :: V_In) B.pre
  have hts : ∀ w ∈ V_In, w.before ([.ref i0, .int p1] : List Value).toArray s = true := fun w h => hts0 w (List.mem_cons_of_mem _ h)
  have hown : s.vm.findClass R_In = some m.cls := findClass_of_methodNamed B.named
  have hlocks := B.notSynchronized
  subst hsz
  have hD := hD0.self (sz := s.heap.size)
  generalize hAe : va_A [(i0, .inr (6, [.ref h0, .int se])), (h0, .inr (0, [.int sec, .ref h1, .int pw])), (h1, .inl (cB, n, .inl f))] s.heap.size = A at hD ⊢
  have hA : ∀ q : Nat, s.heap.size ≤ q → A q := fun q h => by rw [← hAe]; exact Or.inr h
  have hS : va_S A s.heap s.heap [] := va_S.rf
  have hP : va_P (dC, dI) classes [(i0, .inr (6, [.ref h0, .int se])), (h0, .inr (0, [.int sec, .ref h1, .int pw])), (h1, .inl (cB, n, .inl f))] s.heap := hP
  have hK : va_K (dC, dI) classes [(cB, .byte)] s := hK
  have hl := lv_entry ([.ref i0, .int p1]) (n := 3) (Nat.le_of_ble_eq_true rfl)
  rw [lg_entry_eq]
  generalize (lg_sl ([.ref i0, .int p1]) ++ List.replicate (3 - (lg_sl ([.ref i0, .int p1])).length) Slot.unset).toArray = ls at hl ⊢
  have hl : lv_has ls 3 [(0, .ref i0), (1, .int p1)] := hl
  refine lv_aload_n hx hb d_In_parentOf_0 rfl (lv_at hl 0 rfl) ?_
  refine lv_aload_n hx hb d_In_parentOf_1 rfl (lv_at hl 0 rfl) ?_
  refine lv_iload_n hx hb d_In_parentOf_2 rfl (lv_at hl 1 rfl) ?_
  refine lv_iconst (v := 1) hx hb d_In_parentOf_3 (by decide) ?_
  have hPc := hP.sub (ws' := [(i0, .inr (6, [.ref h0, .int se])), (h0, .inr (0, [.int sec, .ref h1, .int pw])), (h1, .inl (cB, n, .inl f))]) [0, 1, 2] rfl
  have hDc := hD.sub (ws' := [(i0, .inr (6, [.ref h0, .int se])), (h0, .inr (0, [.int sec, .ref h1, .int pw])), (h1, .inl (cB, n, .inl f))]) [0, 1, 2] (by decide) rfl
  have hKc := hK.sub (tys' := [(cB, .byte)]) [0] rfl
  have hFc := va_free (wc := [(i0, .inr (6, [.ref h0, .int se])), (h0, .inr (0, [.int sec, .ref h1, .int pw])), (h1, .inl (cB, n, .inl f))]) hD hS hA [0, 1, 2] rfl
  refine va_calli (va_runV (As := [.int p1, .int 1]) (rest := [.ref i0]) ⟨hx, hb, hml, hown, hts⟩ (c_In_findEntry l dC dI i0 h0 s.heap.size se h1 cB sec pw n f h4 hn p1 1) (cwV 2 hts (gwV good_In (k_In_29) (k_In_30) (k_In_31) (k_In_0) (wcs (k_In_32) (fun _ h => h))) rfl rfl rfl (by decide +kernel) ⟨Nat.le_of_ble_eq_true rfl, Nat.le_of_ble_eq_true rfl⟩) (pv_of hPc hKc hDc (va_recv hKc hPc (ci := 6) (q0 := 0) rfl rfl)) rfl rfl hl.1 rfl (lv_room (Nat.le_of_ble_eq_true rfl)) d_In_parentOf_4 ⟨by decide, by decide⟩) hS (fun q _ h => hFc q h) hFc (fun r_1 u t H1 locs ht hvm hw hB hz1 hk1 hS => ?_)
  have hr9 : r_1 = (in_find n f p1 1).1 := by rw [← hw]
  have hu9 : u = (in_find n f p1 1).2 := by rw [← hw]
  rw [hr9]
  clear hr9 hw
  subst hu9
  obtain ⟨hP1, hK1, hD1⟩ := hB
  rw [ht] at hP1
  have hP1 : va_P (dC, dI) classes [(i0, .inr (6, [.ref h0, .int ((in_find n f p1 1).2)])), (h0, .inr (0, [.int sec, .ref h1, .int pw])), (h1, .inl (cB, n, .inl f))] H1 := hP1
  have hD1 : va_D _ [(i0, .inr (6, [.ref h0, .int ((in_find n f p1 1).2)])), (h0, .inr (0, [.int sec, .ref h1, .int pw])), (h1, .inl (cB, n, .inl f))] := hD1
  obtain ⟨hP, hD⟩ := va_join (wr := []) (w1 := [(i0, .inr (6, [.ref h0, .int ((in_find n f p1 1).2)])), (h0, .inr (0, [.int sec, .ref h1, .int pw])), (h1, .inl (cB, n, .inl f))]) hP hD [0, 1, 2] [] rfl rfl (by decide) (by decide) hk1 hFc hP1 hD1
  generalize H1 = H at hP hS ⊢
  have hP : va_P (dC, dI) classes [(i0, .inr (6, [.ref h0, .int ((in_find n f p1 1).2)])), (h0, .inr (0, [.int sec, .ref h1, .int pw])), (h1, .inl (cB, n, .inl f))] H := hP
  have hD : va_D A [(i0, .inr (6, [.ref h0, .int ((in_find n f p1 1).2)])), (h0, .inr (0, [.int sec, .ref h1, .int pw])), (h1, .inl (cB, n, .inl f))] := hD
  have hPc := hP.sub (ws' := [(i0, .inr (6, [.ref h0, .int ((in_find n f p1 1).2)])), (h0, .inr (0, [.int sec, .ref h1, .int pw])), (h1, .inl (cB, n, .inl f))]) [0, 1, 2] rfl
  have hDc := hD.sub (ws' := [(i0, .inr (6, [.ref h0, .int ((in_find n f p1 1).2)])), (h0, .inr (0, [.int sec, .ref h1, .int pw])), (h1, .inl (cB, n, .inl f))]) [0, 1, 2] (by decide) rfl
  have hKc := hK.sub (tys' := [(cB, .byte)]) [0] rfl
  have hFc := va_free (wc := [(i0, .inr (6, [.ref h0, .int ((in_find n f p1 1).2)])), (h0, .inr (0, [.int sec, .ref h1, .int pw])), (h1, .inl (cB, n, .inl f))]) hD hS hA [0, 1, 2] rfl
  refine va_calli (va_runV (As := [.int ((in_find n f p1 1).1)]) (rest := []) ⟨hx, hb, hml, hown, hts⟩ (c_In_inodeOf l dC dI i0 h0 H.size ((in_find n f p1 1).2) h1 cB sec pw n f h4 hn ((in_find n f p1 1).1)) (cwV 1 hts (gwV good_In (k_In_49) (k_In_50) (k_In_51) (k_In_0) (wcs (k_In_52) (fun _ h => h))) rfl rfl rfl (by decide +kernel) ⟨Nat.le_of_ble_eq_true rfl, Nat.le_of_ble_eq_true rfl⟩) (pv_of hPc hKc hDc (va_recv hKc hPc (ci := 6) (q0 := 0) rfl rfl)) rfl rfl hl.1 rfl (lv_room (Nat.le_of_ble_eq_true rfl)) d_In_parentOf_7 ⟨by decide, by decide⟩) hS (fun q _ h => hFc q h) hFc (fun r_2 u t H1 locs ht hvm hw hB hz1 hk1 hS => ?_)
  have er_2 := hw
  obtain ⟨hP1, hK1, hD1⟩ := hB
  rw [ht] at hP1
  have hP1 : va_P (dC, dI) classes [(i0, .inr (6, [.ref h0, .int ((in_find n f p1 1).2)])), (h0, .inr (0, [.int sec, .ref h1, .int pw])), (h1, .inl (cB, n, .inl f))] H1 := hP1
  have hD1 : va_D _ [(i0, .inr (6, [.ref h0, .int ((in_find n f p1 1).2)])), (h0, .inr (0, [.int sec, .ref h1, .int pw])), (h1, .inl (cB, n, .inl f))] := hD1
  obtain ⟨hP, hD⟩ := va_join (wr := []) (w1 := [(i0, .inr (6, [.ref h0, .int ((in_find n f p1 1).2)])), (h0, .inr (0, [.int sec, .ref h1, .int pw])), (h1, .inl (cB, n, .inl f))]) hP hD [0, 1, 2] [] rfl rfl (by decide) (by decide) hk1 hFc hP1 hD1
  generalize H1 = H at hP hS ⊢
  have hP : va_P (dC, dI) classes [(i0, .inr (6, [.ref h0, .int ((in_find n f p1 1).2)])), (h0, .inr (0, [.int sec, .ref h1, .int pw])), (h1, .inl (cB, n, .inl f))] H := hP
  have hD : va_D A [(i0, .inr (6, [.ref h0, .int ((in_find n f p1 1).2)])), (h0, .inr (0, [.int sec, .ref h1, .int pw])), (h1, .inl (cB, n, .inl f))] := hD
  refine lv_istore_n (lv' := [(2, .int r_2), (0, .ref i0), (1, .int p1)]) hx hb d_In_parentOf_10 rfl hl (by decide) rfl (fun ls hl => ?_)
  refine lv_iload_n hx hb d_In_parentOf_11 rfl (lv_at hl 0 rfl) ?_
  refine lv_iconst (v := 2) hx hb d_In_parentOf_12 (by decide) ?_
  refine lv_icmp_ne (tgt := 20) hx hb d_In_parentOf_13 (by decide) (fun c_3 => ?_) (fun c_3 => ?_)
  · refine lv_iload_n hx hb d_In_parentOf_20 rfl (lv_at hl 0 rfl) ?_
    exact W.iret (v := r_2) hx hb hr (fun t ht hW => ⟨⟨r_2, (), rfl, by rw [in_par, ← er_2, if_neg c_3], by rw [ht]; exact hP, va_K.moved hW.alike hK, hD⟩, hS.F ht⟩) hS.2.2 d_In_parentOf_21
  · refine lv_iconst (v := 0) hx hb d_In_parentOf_16 (by decide) ?_
    refine lv_goto (tgt := 21) hx hb d_In_parentOf_17 (by decide) ?_
    exact W.iret (v := 0) hx hb hr (fun t ht hW => ⟨⟨0, (), rfl, by rw [in_par, ← er_2, if_pos c_3], by rw [ht]; exact hP, va_K.moved hW.alike hK, hD⟩, hS.F ht⟩) hS.2.2 d_In_parentOf_21
