def tr_begin (cn : Nat) (g7 : Nat → Int32) (p1 : Int32) : Nat → Int32 := if (tr_has cn p1) = 0 then (g7) else (upd g7 p1.toNatClampNeg (nI cn))
set_option maxHeartbeats 4000000 in
set_option maxRecDepth 100000 in
theorem c_Tr_beginKids (l : Launch) (dC : Nat → ClassId) (dI : Nat → Nat → Nat) (t0 sz : Nat) (a0 a1 a2 a3 a4 a5 a6 a7 a8 a9 a10 a11 a12 a13 a14 : Nat) (cn tl : Nat) (lb po : Int32) (k7 : ClassId) (g7 : Nat → Int32) (hcn : cn ≤ tl) (htl : tl < 2 ^ 31) (p1 : Int32) : Met l y_Tr_beginKids (.code y_Tr_beginKids b_Tr_beginKids 2 none :: V_Tr) ({ frames := 1, cells := 0, slots := 0, locals := 21 }) (va_Pc [.ref t0, .int p1] (fun U => U.heap.size = sz ∧ at_ (dC, dI) (fun _ => True) [(t0, .inr (5, [.int (nI cn), .int lb, .ref a0, .ref a1, .ref a2, .ref a3, .ref a4, .ref a5, .ref a6, .ref a7, .ref a8, .ref a9, .ref a10, .ref a11, .ref a12, .ref a13, .ref a14, .int po])), (a7, .inl (k7, tl, .inl g7))] [(k7, .int)] U)) (va_Qv (fun u : Nat → Int32 => u = tr_begin cn g7 p1) (fun (u : Nat → Int32) t => at_ (dC, dI) (va_A [(t0, .inr (5, [.int (nI cn), .int lb, .ref a0, .ref a1, .ref a2, .ref a3, .ref a4, .ref a5, .ref a6, .ref a7, .ref a8, .ref a9, .ref a10, .ref a11, .ref a12, .ref a13, .ref a14, .int po])), (a7, .inl (k7, tl, .inl g7))] sz) [(t0, .inr (5, [.int (nI cn), .int lb, .ref a0, .ref a1, .ref a2, .ref a3, .ref a4, .ref a5, .ref a6, .ref a7, .ref a8, .ref a9, .ref a10, .ref a11, .ref a12, .ref a13, .ref a14, .int po])), (a7, .inl (k7, tl, .inl u))] [(k7, .int)] t) (va_A [(t0, .inr (5, [.int (nI cn), .int lb, .ref a0, .ref a1, .ref a2, .ref a3, .ref a4, .ref a5, .ref a6, .ref a7, .ref a8, .ref a9, .ref a10, .ref a11, .ref a12, .ref a13, .ref a14, .int po])), (a7, .inl (k7, tl, .inl g7))] sz)) 0 0 (va_A [(t0, .inr (5, [.int (nI cn), .int lb, .ref a0, .ref a1, .ref a2, .ref a3, .ref a4, .ref a5, .ref a6, .ref a7, .ref a8, .ref a9, .ref a10, .ref a11, .ref a12, .ref a13, .ref a14, .int po])), (a7, .inl (k7, tl, .inl g7))] sz) := by
  refine Met.ofW (cc := b_Tr_beginKids) (maxL := 2) (ret := none) (by decide) rfl ?_
  intro p e s m args below meth c s₁ B hml hv
  obtain ⟨rfl, hsz, hP, hK, hD0⟩ := hv
  have hx := B.exec
  have hb := B.bytes
  have hr := B.returns
  have hts0 := atoms_spec (ws := .code y_Tr_beginKids b_Tr_beginKids 2 none :: V_Tr) B.pre
  have hts : ∀ w ∈ V_Tr, w.before ([.ref t0, .int p1] : List Value).toArray s = true := fun w h => hts0 w (List.mem_cons_of_mem _ h)
  have hown : s.vm.findClass R_Tr = some m.cls := findClass_of_methodNamed B.named
  have hlocks := B.notSynchronized
  subst hsz
  have hD := hD0.self (sz := s.heap.size)
  generalize hAe : va_A [(t0, .inr (5, [.int (nI cn), .int lb, .ref a0, .ref a1, .ref a2, .ref a3, .ref a4, .ref a5, .ref a6, .ref a7, .ref a8, .ref a9, .ref a10, .ref a11, .ref a12, .ref a13, .ref a14, .int po])), (a7, .inl (k7, tl, .inl g7))] s.heap.size = A at hD ⊢
  have hA : ∀ q : Nat, s.heap.size ≤ q → A q := fun q h => by rw [← hAe]; exact Or.inr h
  have hS : va_S A s.heap s.heap [] := va_S.rf
  have hP : va_P (dC, dI) classes [(t0, .inr (5, [.int (nI cn), .int lb, .ref a0, .ref a1, .ref a2, .ref a3, .ref a4, .ref a5, .ref a6, .ref a7, .ref a8, .ref a9, .ref a10, .ref a11, .ref a12, .ref a13, .ref a14, .int po])), (a7, .inl (k7, tl, .inl g7))] s.heap := hP
  have hK : va_K (dC, dI) classes [(k7, .int)] s := hK
  have hl := lv_entry ([.ref t0, .int p1]) (n := 2) (Nat.le_of_ble_eq_true rfl)
  rw [lg_entry_eq]
  generalize (lg_sl ([.ref t0, .int p1]) ++ List.replicate (2 - (lg_sl ([.ref t0, .int p1])).length) Slot.unset).toArray = ls at hl ⊢
  have hl : lv_has ls 2 [(0, .ref t0), (1, .int p1)] := hl
  refine lv_aload_n hx hb d_Tr_beginKids_0 rfl (lv_at hl 0 rfl) ?_
  refine lv_iload_n hx hb d_Tr_beginKids_1 rfl (lv_at hl 1 rfl) ?_
  have hPc := hP.sub (ws' := [(t0, .inr (5, [.int (nI cn), .int lb, .ref a0, .ref a1, .ref a2, .ref a3, .ref a4, .ref a5, .ref a6, .ref a7, .ref a8, .ref a9, .ref a10, .ref a11, .ref a12, .ref a13, .ref a14, .int po]))]) [0] rfl
  have hDc := hD.sub (ws' := [(t0, .inr (5, [.int (nI cn), .int lb, .ref a0, .ref a1, .ref a2, .ref a3, .ref a4, .ref a5, .ref a6, .ref a7, .ref a8, .ref a9, .ref a10, .ref a11, .ref a12, .ref a13, .ref a14, .int po]))]) [0] (by decide) rfl
  have hKc := hK.sub (tys' := []) [] rfl
  have hFc := va_free (wc := [(t0, .inr (5, [.int (nI cn), .int lb, .ref a0, .ref a1, .ref a2, .ref a3, .ref a4, .ref a5, .ref a6, .ref a7, .ref a8, .ref a9, .ref a10, .ref a11, .ref a12, .ref a13, .ref a14, .int po]))]) hD hS hA [0] rfl
  refine va_calli (va_runV (As := [.int p1]) (rest := []) ⟨hx, hb, hml, hown, hts⟩ (c_Tr_has l dC dI t0 s.heap.size a0 a1 a2 a3 a4 a5 a6 a7 a8 a9 a10 a11 a12 a13 a14 cn tl lb po p1) (cwV 1 hts (gwV good_Tr (k_Tr_38) (k_Tr_39) (k_Tr_40) (k_Tr_0) (wcs (k_Tr_41) (fun _ h => h))) rfl rfl rfl (by decide +kernel) ⟨Nat.le_of_ble_eq_true rfl, Nat.le_of_ble_eq_true rfl⟩) (pv_of hPc hKc hDc (va_recv hKc hPc (ci := 5) (q0 := 0) rfl rfl)) rfl rfl hl.1 rfl (lv_room (Nat.le_of_ble_eq_true rfl)) d_Tr_beginKids_2 ⟨by decide, by decide⟩) hS (fun q _ h => hFc q h) hFc (fun r_1 u t H1 locs ht hvm hw hB hz1 hk1 hS => ?_)
  have er_1 := hw
  obtain ⟨hP1, hK1, hD1⟩ := hB
  rw [ht] at hP1
  have hP1 : va_P (dC, dI) classes [(t0, .inr (5, [.int (nI cn), .int lb, .ref a0, .ref a1, .ref a2, .ref a3, .ref a4, .ref a5, .ref a6, .ref a7, .ref a8, .ref a9, .ref a10, .ref a11, .ref a12, .ref a13, .ref a14, .int po]))] H1 := hP1
  have hD1 : va_D _ [(t0, .inr (5, [.int (nI cn), .int lb, .ref a0, .ref a1, .ref a2, .ref a3, .ref a4, .ref a5, .ref a6, .ref a7, .ref a8, .ref a9, .ref a10, .ref a11, .ref a12, .ref a13, .ref a14, .int po]))] := hD1
  obtain ⟨hP, hD⟩ := va_join (wr := [(a7, .inl (k7, tl, .inl g7))]) (w1 := [(t0, .inr (5, [.int (nI cn), .int lb, .ref a0, .ref a1, .ref a2, .ref a3, .ref a4, .ref a5, .ref a6, .ref a7, .ref a8, .ref a9, .ref a10, .ref a11, .ref a12, .ref a13, .ref a14, .int po]))]) hP hD [0] [1] rfl rfl (by decide) (by decide) hk1 hFc hP1 hD1
  generalize H1 = H at hP hS ⊢
  have hP : va_P (dC, dI) classes [(a7, .inl (k7, tl, .inl g7)), (t0, .inr (5, [.int (nI cn), .int lb, .ref a0, .ref a1, .ref a2, .ref a3, .ref a4, .ref a5, .ref a6, .ref a7, .ref a8, .ref a9, .ref a10, .ref a11, .ref a12, .ref a13, .ref a14, .int po]))] H := hP
  have hD : va_D A [(a7, .inl (k7, tl, .inl g7)), (t0, .inr (5, [.int (nI cn), .int lb, .ref a0, .ref a1, .ref a2, .ref a3, .ref a4, .ref a5, .ref a6, .ref a7, .ref a8, .ref a9, .ref a10, .ref a11, .ref a12, .ref a13, .ref a14, .int po]))] := hD
  refine lv_if_eq (tgt := 18) hx hb d_Tr_beginKids_5 (by decide) (fun c_2 => ?_) (fun c_2 => ?_)
  · have hP := hP.sub (ws' := [(t0, .inr (5, [.int (nI cn), .int lb, .ref a0, .ref a1, .ref a2, .ref a3, .ref a4, .ref a5, .ref a6, .ref a7, .ref a8, .ref a9, .ref a10, .ref a11, .ref a12, .ref a13, .ref a14, .int po])), (a7, .inl (k7, tl, .inl g7))]) [1, 0] rfl
    have hD := hD.sub (ws' := [(t0, .inr (5, [.int (nI cn), .int lb, .ref a0, .ref a1, .ref a2, .ref a3, .ref a4, .ref a5, .ref a6, .ref a7, .ref a8, .ref a9, .ref a10, .ref a11, .ref a12, .ref a13, .ref a14, .int po])), (a7, .inl (k7, tl, .inl g7))]) [1, 0] (by decide) rfl
    exact W.vret hx hb hr (fun t ht hW => ⟨⟨g7, rfl, by rw [tr_begin]; try rw [← er_1]; try rw [if_pos c_2]; try rfl, by rw [ht]; exact hP, va_K.moved hW.alike hK, hD⟩, hS.F ht⟩) hS.2.2 d_Tr_beginKids_18
  · refine lv_aload_n hx hb d_Tr_beginKids_8 rfl (lv_at hl 0 rfl) ?_
    refine va_get (D := (dC, dI)) (ci := 5) (v := .ref a7) (C := R_Tr) (T := F_Tr) (N := 18) hx hb hts i_Tr hown hK hP 1 rfl rfl 9 (by decide) (hts _ (k_Tr_14)) (fun _ h9 => h9) rfl d_Tr_beginKids_9 ?_
    refine lv_iload_n hx hb d_Tr_beginKids_12 rfl (lv_at hl 1 rfl) ?_
    refine lv_aload_n hx hb d_Tr_beginKids_13 rfl (lv_at hl 0 rfl) ?_
    refine va_get (D := (dC, dI)) (ci := 5) (v := .int (nI cn)) (C := R_Tr) (T := F_Tr) (N := 18) hx hb hts i_Tr hown hK hP 1 rfl rfl 0 (by decide) (hts _ (k_Tr_5)) (fun _ h9 => h9) rfl d_Tr_beginKids_14 ?_
    refine va_iast hx hb hK hP hD hS 0 0 rfl rfl (tr_in (by rw [← er_1]; exact c_2) hcn htl) d_Tr_beginKids_17 (fun H locs hP hD hS => ?_)
    have hP : va_P (dC, dI) classes [(a7, .inl (k7, tl, .inl (upd g7 p1.toNatClampNeg (nI cn)))), (t0, .inr (5, [.int (nI cn), .int lb, .ref a0, .ref a1, .ref a2, .ref a3, .ref a4, .ref a5, .ref a6, .ref a7, .ref a8, .ref a9, .ref a10, .ref a11, .ref a12, .ref a13, .ref a14, .int po]))] H := hP
    have hD : va_D A [(a7, .inl (k7, tl, .inl (upd g7 p1.toNatClampNeg (nI cn)))), (t0, .inr (5, [.int (nI cn), .int lb, .ref a0, .ref a1, .ref a2, .ref a3, .ref a4, .ref a5, .ref a6, .ref a7, .ref a8, .ref a9, .ref a10, .ref a11, .ref a12, .ref a13, .ref a14, .int po]))] := hD
    have hP := hP.sub (ws' := [(t0, .inr (5, [.int (nI cn), .int lb, .ref a0, .ref a1, .ref a2, .ref a3, .ref a4, .ref a5, .ref a6, .ref a7, .ref a8, .ref a9, .ref a10, .ref a11, .ref a12, .ref a13, .ref a14, .int po])), (a7, .inl (k7, tl, .inl (upd g7 p1.toNatClampNeg (nI cn))))]) [1, 0] rfl
    have hD := hD.sub (ws' := [(t0, .inr (5, [.int (nI cn), .int lb, .ref a0, .ref a1, .ref a2, .ref a3, .ref a4, .ref a5, .ref a6, .ref a7, .ref a8, .ref a9, .ref a10, .ref a11, .ref a12, .ref a13, .ref a14, .int po])), (a7, .inl (k7, tl, .inl (upd g7 p1.toNatClampNeg (nI cn))))]) [1, 0] (by decide) rfl
    exact W.vret hx hb hr (fun t ht hW => ⟨⟨upd g7 p1.toNatClampNeg (nI cn), rfl, by rw [tr_begin]; try rw [← er_1]; try rw [if_neg c_2]; try rfl, by rw [ht]; exact hP, va_K.moved hW.alike hK, hD⟩, hS.F ht⟩) hS.2.2 d_Tr_beginKids_18
def tr_end (cn : Nat) (g7 g8 : Nat → Int32) (p1 : Int32) : Nat → Int32 := if (tr_has cn p1) = 0 then (g8) else (upd g8 p1.toNatClampNeg ((nI cn) - (g7 p1.toNatClampNeg)))
set_option maxHeartbeats 4000000 in
set_option maxRecDepth 100000 in
theorem c_Tr_endKids (l : Launch) (dC : Nat → ClassId) (dI : Nat → Nat → Nat) (t0 sz : Nat) (a0 a1 a2 a3 a4 a5 a6 a7 a8 a9 a10 a11 a12 a13 a14 : Nat) (cn tl : Nat) (lb po : Int32) (k7 : ClassId) (g7 : Nat → Int32) (k8 : ClassId) (g8 : Nat → Int32) (hcn : cn ≤ tl) (htl : tl < 2 ^ 31) (p1 : Int32) : Met l y_Tr_endKids (.code y_Tr_endKids b_Tr_endKids 2 none :: V_Tr) ({ frames := 1, cells := 0, slots := 0, locals := 21 }) (va_Pc [.ref t0, .int p1] (fun U => U.heap.size = sz ∧ at_ (dC, dI) (fun _ => True) [(t0, .inr (5, [.int (nI cn), .int lb, .ref a0, .ref a1, .ref a2, .ref a3, .ref a4, .ref a5, .ref a6, .ref a7, .ref a8, .ref a9, .ref a10, .ref a11, .ref a12, .ref a13, .ref a14, .int po])), (a7, .inl (k7, tl, .inl g7)), (a8, .inl (k8, tl, .inl g8))] [(k7, .int), (k8, .int)] U)) (va_Qv (fun u : Nat → Int32 => u = tr_end cn g7 g8 p1) (fun (u : Nat → Int32) t => at_ (dC, dI) (va_A [(t0, .inr (5, [.int (nI cn), .int lb, .ref a0, .ref a1, .ref a2, .ref a3, .ref a4, .ref a5, .ref a6, .ref a7, .ref a8, .ref a9, .ref a10, .ref a11, .ref a12, .ref a13, .ref a14, .int po])), (a7, .inl (k7, tl, .inl g7)), (a8, .inl (k8, tl, .inl g8))] sz) [(t0, .inr (5, [.int (nI cn), .int lb, .ref a0, .ref a1, .ref a2, .ref a3, .ref a4, .ref a5, .ref a6, .ref a7, .ref a8, .ref a9, .ref a10, .ref a11, .ref a12, .ref a13, .ref a14, .int po])), (a7, .inl (k7, tl, .inl g7)), (a8, .inl (k8, tl, .inl u))] [(k7, .int), (k8, .int)] t) (va_A [(t0, .inr (5, [.int (nI cn), .int lb, .ref a0, .ref a1, .ref a2, .ref a3, .ref a4, .ref a5, .ref a6, .ref a7, .ref a8, .ref a9, .ref a10, .ref a11, .ref a12, .ref a13, .ref a14, .int po])), (a7, .inl (k7, tl, .inl g7)), (a8, .inl (k8, tl, .inl g8))] sz)) 0 0 (va_A [(t0, .inr (5, [.int (nI cn), .int lb, .ref a0, .ref a1, .ref a2, .ref a3, .ref a4, .ref a5, .ref a6, .ref a7, .ref a8, .ref a9, .ref a10, .ref a11, .ref a12, .ref a13, .ref a14, .int po])), (a7, .inl (k7, tl, .inl g7)), (a8, .inl (k8, tl, .inl g8))] sz) := by
  refine Met.ofW (cc := b_Tr_endKids) (maxL := 2) (ret := none) (by decide) rfl ?_
  intro p e s m args below meth c s₁ B hml hv
  obtain ⟨rfl, hsz, hP, hK, hD0⟩ := hv
  have hx := B.exec
  have hb := B.bytes
  have hr := B.returns
  have hts0 := atoms_spec (ws := .code y_Tr_endKids b_Tr_endKids 2 none :: V_Tr) B.pre
  have hts : ∀ w ∈ V_Tr, w.before ([.ref t0, .int p1] : List Value).toArray s = true := fun w h => hts0 w (List.mem_cons_of_mem _ h)
  have hown : s.vm.findClass R_Tr = some m.cls := findClass_of_methodNamed B.named
  have hlocks := B.notSynchronized
  subst hsz
  have hD := hD0.self (sz := s.heap.size)
  generalize hAe : va_A [(t0, .inr (5, [.int (nI cn), .int lb, .ref a0, .ref a1, .ref a2, .ref a3, .ref a4, .ref a5, .ref a6, .ref a7, .ref a8, .ref a9, .ref a10, .ref a11, .ref a12, .ref a13, .ref a14, .int po])), (a7, .inl (k7, tl, .inl g7)), (a8, .inl (k8, tl, .inl g8))] s.heap.size = A at hD ⊢
  have hA : ∀ q : Nat, s.heap.size ≤ q → A q := fun q h => by rw [← hAe]; exact Or.inr h
  have hS : va_S A s.heap s.heap [] := va_S.rf
  have hP : va_P (dC, dI) classes [(t0, .inr (5, [.int (nI cn), .int lb, .ref a0, .ref a1, .ref a2, .ref a3, .ref a4, .ref a5, .ref a6, .ref a7, .ref a8, .ref a9, .ref a10, .ref a11, .ref a12, .ref a13, .ref a14, .int po])), (a7, .inl (k7, tl, .inl g7)), (a8, .inl (k8, tl, .inl g8))] s.heap := hP
  have hK : va_K (dC, dI) classes [(k7, .int), (k8, .int)] s := hK
  have hl := lv_entry ([.ref t0, .int p1]) (n := 2) (Nat.le_of_ble_eq_true rfl)
  rw [lg_entry_eq]
  generalize (lg_sl ([.ref t0, .int p1]) ++ List.replicate (2 - (lg_sl ([.ref t0, .int p1])).length) Slot.unset).toArray = ls at hl ⊢
  have hl : lv_has ls 2 [(0, .ref t0), (1, .int p1)] := hl
  refine lv_aload_n hx hb d_Tr_endKids_0 rfl (lv_at hl 0 rfl) ?_
  refine lv_iload_n hx hb d_Tr_endKids_1 rfl (lv_at hl 1 rfl) ?_
  have hPc := hP.sub (ws' := [(t0, .inr (5, [.int (nI cn), .int lb, .ref a0, .ref a1, .ref a2, .ref a3, .ref a4, .ref a5, .ref a6, .ref a7, .ref a8, .ref a9, .ref a10, .ref a11, .ref a12, .ref a13, .ref a14, .int po]))]) [0] rfl
  have hDc := hD.sub (ws' := [(t0, .inr (5, [.int (nI cn), .int lb, .ref a0, .ref a1, .ref a2, .ref a3, .ref a4, .ref a5, .ref a6, .ref a7, .ref a8, .ref a9, .ref a10, .ref a11, .ref a12, .ref a13, .ref a14, .int po]))]) [0] (by decide) rfl
  have hKc := hK.sub (tys' := []) [] rfl
  have hFc := va_free (wc := [(t0, .inr (5, [.int (nI cn), .int lb, .ref a0, .ref a1, .ref a2, .ref a3, .ref a4, .ref a5, .ref a6, .ref a7, .ref a8, .ref a9, .ref a10, .ref a11, .ref a12, .ref a13, .ref a14, .int po]))]) hD hS hA [0] rfl
  refine va_calli (va_runV (As := [.int p1]) (rest := []) ⟨hx, hb, hml, hown, hts⟩ (c_Tr_has l dC dI t0 s.heap.size a0 a1 a2 a3 a4 a5 a6 a7 a8 a9 a10 a11 a12 a13 a14 cn tl lb po p1) (cwV 1 hts (gwV good_Tr (k_Tr_38) (k_Tr_39) (k_Tr_40) (k_Tr_0) (wcs (k_Tr_41) (fun _ h => h))) rfl rfl rfl (by decide +kernel) ⟨Nat.le_of_ble_eq_true rfl, Nat.le_of_ble_eq_true rfl⟩) (pv_of hPc hKc hDc (va_recv hKc hPc (ci := 5) (q0 := 0) rfl rfl)) rfl rfl hl.1 rfl (lv_room (Nat.le_of_ble_eq_true rfl)) d_Tr_endKids_2 ⟨by decide, by decide⟩) hS (fun q _ h => hFc q h) hFc (fun r_1 u t H1 locs ht hvm hw hB hz1 hk1 hS => ?_)
  have er_1 := hw
  obtain ⟨hP1, hK1, hD1⟩ := hB
  rw [ht] at hP1
  have hP1 : va_P (dC, dI) classes [(t0, .inr (5, [.int (nI cn), .int lb, .ref a0, .ref a1, .ref a2, .ref a3, .ref a4, .ref a5, .ref a6, .ref a7, .ref a8, .ref a9, .ref a10, .ref a11, .ref a12, .ref a13, .ref a14, .int po]))] H1 := hP1
  have hD1 : va_D _ [(t0, .inr (5, [.int (nI cn), .int lb, .ref a0, .ref a1, .ref a2, .ref a3, .ref a4, .ref a5, .ref a6, .ref a7, .ref a8, .ref a9, .ref a10, .ref a11, .ref a12, .ref a13, .ref a14, .int po]))] := hD1
  obtain ⟨hP, hD⟩ := va_join (wr := [(a7, .inl (k7, tl, .inl g7)), (a8, .inl (k8, tl, .inl g8))]) (w1 := [(t0, .inr (5, [.int (nI cn), .int lb, .ref a0, .ref a1, .ref a2, .ref a3, .ref a4, .ref a5, .ref a6, .ref a7, .ref a8, .ref a9, .ref a10, .ref a11, .ref a12, .ref a13, .ref a14, .int po]))]) hP hD [0] [1, 2] rfl rfl (by decide) (by decide) hk1 hFc hP1 hD1
  generalize H1 = H at hP hS ⊢
  have hP : va_P (dC, dI) classes [(a7, .inl (k7, tl, .inl g7)), (a8, .inl (k8, tl, .inl g8)), (t0, .inr (5, [.int (nI cn), .int lb, .ref a0, .ref a1, .ref a2, .ref a3, .ref a4, .ref a5, .ref a6, .ref a7, .ref a8, .ref a9, .ref a10, .ref a11, .ref a12, .ref a13, .ref a14, .int po]))] H := hP
  have hD : va_D A [(a7, .inl (k7, tl, .inl g7)), (a8, .inl (k8, tl, .inl g8)), (t0, .inr (5, [.int (nI cn), .int lb, .ref a0, .ref a1, .ref a2, .ref a3, .ref a4, .ref a5, .ref a6, .ref a7, .ref a8, .ref a9, .ref a10, .ref a11, .ref a12, .ref a13, .ref a14, .int po]))] := hD
  refine lv_if_eq (tgt := 25) hx hb d_Tr_endKids_5 (by decide) (fun c_2 => ?_) (fun c_2 => ?_)
  · have hP := hP.sub (ws' := [(t0, .inr (5, [.int (nI cn), .int lb, .ref a0, .ref a1, .ref a2, .ref a3, .ref a4, .ref a5, .ref a6, .ref a7, .ref a8, .ref a9, .ref a10, .ref a11, .ref a12, .ref a13, .ref a14, .int po])), (a7, .inl (k7, tl, .inl g7)), (a8, .inl (k8, tl, .inl g8))]) [2, 0, 1] rfl
    have hD := hD.sub (ws' := [(t0, .inr (5, [.int (nI cn), .int lb, .ref a0, .ref a1, .ref a2, .ref a3, .ref a4, .ref a5, .ref a6, .ref a7, .ref a8, .ref a9, .ref a10, .ref a11, .ref a12, .ref a13, .ref a14, .int po])), (a7, .inl (k7, tl, .inl g7)), (a8, .inl (k8, tl, .inl g8))]) [2, 0, 1] (by decide) rfl
    exact W.vret hx hb hr (fun t ht hW => ⟨⟨g8, rfl, by rw [tr_end]; try rw [← er_1]; try rw [if_pos c_2]; try rfl, by rw [ht]; exact hP, va_K.moved hW.alike hK, hD⟩, hS.F ht⟩) hS.2.2 d_Tr_endKids_25
  · refine lv_aload_n hx hb d_Tr_endKids_8 rfl (lv_at hl 0 rfl) ?_
    refine va_get (D := (dC, dI)) (ci := 5) (v := .ref a8) (C := R_Tr) (T := F_Tr) (N := 18) hx hb hts i_Tr hown hK hP 2 rfl rfl 10 (by decide) (hts _ (k_Tr_15)) (fun _ h9 => h9) rfl d_Tr_endKids_9 ?_
    refine lv_iload_n hx hb d_Tr_endKids_12 rfl (lv_at hl 1 rfl) ?_
    refine lv_aload_n hx hb d_Tr_endKids_13 rfl (lv_at hl 0 rfl) ?_
    refine va_get (D := (dC, dI)) (ci := 5) (v := .int (nI cn)) (C := R_Tr) (T := F_Tr) (N := 18) hx hb hts i_Tr hown hK hP 2 rfl rfl 0 (by decide) (hts _ (k_Tr_5)) (fun _ h9 => h9) rfl d_Tr_endKids_14 ?_
    refine lv_aload_n hx hb d_Tr_endKids_17 rfl (lv_at hl 0 rfl) ?_
    refine va_get (D := (dC, dI)) (ci := 5) (v := .ref a7) (C := R_Tr) (T := F_Tr) (N := 18) hx hb hts i_Tr hown hK hP 2 rfl rfl 9 (by decide) (hts _ (k_Tr_14)) (fun _ h9 => h9) rfl d_Tr_endKids_18 ?_
    refine lv_iload_n hx hb d_Tr_endKids_21 rfl (lv_at hl 1 rfl) ?_
    refine va_iald hx hb hK hP 0 0 rfl rfl (tr_in (by rw [← er_1]; exact c_2) hcn htl) d_Tr_endKids_22 ?_
    refine lv_isub hx hb d_Tr_endKids_23 ?_
    refine va_iast hx hb hK hP hD hS 1 1 rfl rfl (tr_in (by rw [← er_1]; exact c_2) hcn htl) d_Tr_endKids_24 (fun H locs hP hD hS => ?_)
    have hP : va_P (dC, dI) classes [(a7, .inl (k7, tl, .inl g7)), (a8, .inl (k8, tl, .inl (upd g8 p1.toNatClampNeg ((nI cn) - (g7 p1.toNatClampNeg))))), (t0, .inr (5, [.int (nI cn), .int lb, .ref a0, .ref a1, .ref a2, .ref a3, .ref a4, .ref a5, .ref a6, .ref a7, .ref a8, .ref a9, .ref a10, .ref a11, .ref a12, .ref a13, .ref a14, .int po]))] H := hP
    have hD : va_D A [(a7, .inl (k7, tl, .inl g7)), (a8, .inl (k8, tl, .inl (upd g8 p1.toNatClampNeg ((nI cn) - (g7 p1.toNatClampNeg))))), (t0, .inr (5, [.int (nI cn), .int lb, .ref a0, .ref a1, .ref a2, .ref a3, .ref a4, .ref a5, .ref a6, .ref a7, .ref a8, .ref a9, .ref a10, .ref a11, .ref a12, .ref a13, .ref a14, .int po]))] := hD
    have hP := hP.sub (ws' := [(t0, .inr (5, [.int (nI cn), .int lb, .ref a0, .ref a1, .ref a2, .ref a3, .ref a4, .ref a5, .ref a6, .ref a7, .ref a8, .ref a9, .ref a10, .ref a11, .ref a12, .ref a13, .ref a14, .int po])), (a7, .inl (k7, tl, .inl g7)), (a8, .inl (k8, tl, .inl (upd g8 p1.toNatClampNeg ((nI cn) - (g7 p1.toNatClampNeg)))))]) [2, 0, 1] rfl
    have hD := hD.sub (ws' := [(t0, .inr (5, [.int (nI cn), .int lb, .ref a0, .ref a1, .ref a2, .ref a3, .ref a4, .ref a5, .ref a6, .ref a7, .ref a8, .ref a9, .ref a10, .ref a11, .ref a12, .ref a13, .ref a14, .int po])), (a7, .inl (k7, tl, .inl g7)), (a8, .inl (k8, tl, .inl (upd g8 p1.toNatClampNeg ((nI cn) - (g7 p1.toNatClampNeg)))))]) [2, 0, 1] (by decide) rfl
    exact W.vret hx hb hr (fun t ht hW => ⟨⟨upd g8 p1.toNatClampNeg ((nI cn) - (g7 p1.toNatClampNeg)), rfl, by rw [tr_end]; try rw [← er_1]; try rw [if_neg c_2]; try rfl, by rw [ht]; exact hP, va_K.moved hW.alike hK, hD⟩, hS.F ht⟩) hS.2.2 d_Tr_endKids_25
theorem div_in {x y : Int32} {n : Nat} (h0 : ¬ x < 0) (h1 : ¬ y < 1) (h2 : x / y < nI n) (hn : n < 2 ^ 31) : vp_in (x / y) n := by
  obtain ⟨a, ha, rfl⟩ := nI_of h0
  obtain ⟨b, hb, rfl⟩ := nI_of (x := y) (fun h => h1 (Int32.lt_trans h (by decide)))
  have hb1 : 1 ≤ b := nle_of_lt (b := 1) hb h1 (by decide)
  have hd : a / b ≤ a := Nat.div_le_self a b
  rw [pk_div ha hb1 hb] at h2 ⊢
  exact vp_in_nI ((nI_ltI (by omega) hn).mp h2) hn
def tb_slot (cl sa : Int32) (rl : Nat) (ra : Nat → Int32) (p2 : Int32) : Int32 := if (tb_sc cl) < 1 then ((-1)) else if p2 < 0 then ((-1)) else if (p2 / (tb_sc cl)) < (nI rl) then ((tb_pl cl sa (ra (p2 / (tb_sc cl)).toNatClampNeg)) + ((p2 - p2 / (tb_sc cl) * (tb_sc cl)) * 32)) else ((-1))
set_option maxHeartbeats 4000000 in
set_option maxRecDepth 100000 in
theorem c_Tb_slotPlace (l : Launch) (dC : Nat → ClassId) (dI : Nat → Nat → Nat) (b0 b1 b2 h0 sz : Nat) (cl be co le ro sa ks : Int32) (rd : Nat) (c3 : ClassId) (rl : Nat) (ra : Nat → Int32) (hrl : rl < 2 ^ 31) (p2 : Int32) : Met l y_Tb_slotPlace (.code y_Tb_slotPlace b_Tb_slotPlace 4 (some .int) :: V_Tb) ({ frames := 1, cells := 0, slots := 0, locals := 21 }) (va_Pc [.ref b0, .ref rd, .int p2] (fun U => U.heap.size = sz ∧ at_ (dC, dI) (fun _ => True) [(b0, .inr (4, [.ref h0, .int cl, .int be, .int co, .int le, .int ro, .int sa, .int ks, .ref b1, .ref b2])), (rd, .inl (c3, rl, .inl ra))] [(c3, .int)] U)) (va_Qi (fun (r : Int32) (u : Unit) => r = tb_slot cl sa rl ra p2) (fun (u : Unit) t => at_ (dC, dI) (va_A [(b0, .inr (4, [.ref h0, .int cl, .int be, .int co, .int le, .int ro, .int sa, .int ks, .ref b1, .ref b2])), (rd, .inl (c3, rl, .inl ra))] sz) [(b0, .inr (4, [.ref h0, .int cl, .int be, .int co, .int le, .int ro, .int sa, .int ks, .ref b1, .ref b2])), (rd, .inl (c3, rl, .inl ra))] [(c3, .int)] t) (va_A [(b0, .inr (4, [.ref h0, .int cl, .int be, .int co, .int le, .int ro, .int sa, .int ks, .ref b1, .ref b2])), (rd, .inl (c3, rl, .inl ra))] sz)) 0 0 (va_A [(b0, .inr (4, [.ref h0, .int cl, .int be, .int co, .int le, .int ro, .int sa, .int ks, .ref b1, .ref b2])), (rd, .inl (c3, rl, .inl ra))] sz) := by
  refine Met.ofW (cc := b_Tb_slotPlace) (maxL := 4) (ret := (some .int)) (by decide) rfl ?_
  intro p e s m args below meth c s₁ B hml hv
  obtain ⟨rfl, hsz, hP, hK, hD0⟩ := hv
  have hx := B.exec
  have hb := B.bytes
  have hr := B.returns
  have hts0 := atoms_spec (ws := .code y_Tb_slotPlace b_Tb_slotPlace 4 (some .int) :: V_Tb) B.pre
  have hts : ∀ w ∈ V_Tb, w.before ([.ref b0, .ref rd, .int p2] : List Value).toArray s = true := fun w h => hts0 w (List.mem_cons_of_mem _ h)
  have hown : s.vm.findClass R_Tb = some m.cls := findClass_of_methodNamed B.named
  have hlocks := B.notSynchronized
  subst hsz
  have hD := hD0.self (sz := s.heap.size)
  generalize hAe : va_A [(b0, .inr (4, [.ref h0, .int cl, .int be, .int co, .int le, .int ro, .int sa, .int ks, .ref b1, .ref b2])), (rd, .inl (c3, rl, .inl ra))] s.heap.size = A at hD ⊢
  have hA : ∀ q : Nat, s.heap.size ≤ q → A q := fun q h => by rw [← hAe]; exact Or.inr h
  have hS : va_S A s.heap s.heap [] := va_S.rf
  have hP : va_P (dC, dI) classes [(b0, .inr (4, [.ref h0, .int cl, .int be, .int co, .int le, .int ro, .int sa, .int ks, .ref b1, .ref b2])), (rd, .inl (c3, rl, .inl ra))] s.heap := hP
  have hK : va_K (dC, dI) classes [(c3, .int)] s := hK
  have hl := lv_entry ([.ref b0, .ref rd, .int p2]) (n := 4) (Nat.le_of_ble_eq_true rfl)
  rw [lg_entry_eq]
  generalize (lg_sl ([.ref b0, .ref rd, .int p2]) ++ List.replicate (4 - (lg_sl ([.ref b0, .ref rd, .int p2])).length) Slot.unset).toArray = ls at hl ⊢
  have hl : lv_has ls 4 [(0, .ref b0), (1, .ref rd), (2, .int p2)] := hl
  refine lv_aload_n hx hb d_Tb_slotPlace_0 rfl (lv_at hl 0 rfl) ?_
  have hPc := hP.sub (ws' := [(b0, .inr (4, [.ref h0, .int cl, .int be, .int co, .int le, .int ro, .int sa, .int ks, .ref b1, .ref b2]))]) [0] rfl
  have hDc := hD.sub (ws' := [(b0, .inr (4, [.ref h0, .int cl, .int be, .int co, .int le, .int ro, .int sa, .int ks, .ref b1, .ref b2]))]) [0] (by decide) rfl
  have hKc := hK.sub (tys' := []) [] rfl
  have hFc := va_free (wc := [(b0, .inr (4, [.ref h0, .int cl, .int be, .int co, .int le, .int ro, .int sa, .int ks, .ref b1, .ref b2]))]) hD hS hA [0] rfl
  refine va_calli (va_runV (As := []) (rest := []) ⟨hx, hb, hml, hown, hts⟩ (c_Tb_slotsOfCluster l dC dI b0 b1 b2 h0 s.heap.size cl be co le ro sa ks ) (cwV 0 hts (gwV good_Tb (k_Tb_55) (k_Tb_49) (k_Tb_50) (k_Tb_0) (wcs (k_Tb_51) (fun _ h => h))) rfl rfl rfl (by decide +kernel) ⟨Nat.le_of_ble_eq_true rfl, Nat.le_of_ble_eq_true rfl⟩) (pv_of hPc hKc hDc (va_recv hKc hPc (ci := 4) (q0 := 0) rfl rfl)) rfl rfl hl.1 rfl (lv_room (Nat.le_of_ble_eq_true rfl)) d_Tb_slotPlace_1 ⟨by decide, by decide⟩) hS (fun q _ h => hFc q h) hFc (fun r_1 u t H1 locs ht hvm hw hB hz1 hk1 hS => ?_)
  have er_1 := hw
  obtain ⟨hP1, hK1, hD1⟩ := hB
  rw [ht] at hP1
  have hP1 : va_P (dC, dI) classes [(b0, .inr (4, [.ref h0, .int cl, .int be, .int co, .int le, .int ro, .int sa, .int ks, .ref b1, .ref b2]))] H1 := hP1
  have hD1 : va_D _ [(b0, .inr (4, [.ref h0, .int cl, .int be, .int co, .int le, .int ro, .int sa, .int ks, .ref b1, .ref b2]))] := hD1
  obtain ⟨hP, hD⟩ := va_join (wr := [(rd, .inl (c3, rl, .inl ra))]) (w1 := [(b0, .inr (4, [.ref h0, .int cl, .int be, .int co, .int le, .int ro, .int sa, .int ks, .ref b1, .ref b2]))]) hP hD [0] [1] rfl rfl (by decide) (by decide) hk1 hFc hP1 hD1
  generalize H1 = H at hP hS ⊢
  have hP : va_P (dC, dI) classes [(rd, .inl (c3, rl, .inl ra)), (b0, .inr (4, [.ref h0, .int cl, .int be, .int co, .int le, .int ro, .int sa, .int ks, .ref b1, .ref b2]))] H := hP
  have hD : va_D A [(rd, .inl (c3, rl, .inl ra)), (b0, .inr (4, [.ref h0, .int cl, .int be, .int co, .int le, .int ro, .int sa, .int ks, .ref b1, .ref b2]))] := hD
  refine lv_istore_n (lv' := [(3, .int r_1), (0, .ref b0), (1, .ref rd), (2, .int p2)]) hx hb d_Tb_slotPlace_4 rfl hl (by decide) rfl (fun ls hl => ?_)
  refine lv_iload_n hx hb d_Tb_slotPlace_5 rfl (lv_at hl 0 rfl) ?_
  refine lv_iconst (v := 1) hx hb d_Tb_slotPlace_6 (by decide) ?_
  refine lv_icmp_lt (tgt := 22) hx hb d_Tb_slotPlace_7 (by decide) (fun c_2 => ?_) (fun c_2 => ?_)
  · refine lv_iconst (v := (-1)) hx hb d_Tb_slotPlace_22 (by decide) ?_
    have hP := hP.sub (ws' := [(b0, .inr (4, [.ref h0, .int cl, .int be, .int co, .int le, .int ro, .int sa, .int ks, .ref b1, .ref b2])), (rd, .inl (c3, rl, .inl ra))]) [1, 0] rfl
    have hD := hD.sub (ws' := [(b0, .inr (4, [.ref h0, .int cl, .int be, .int co, .int le, .int ro, .int sa, .int ks, .ref b1, .ref b2])), (rd, .inl (c3, rl, .inl ra))]) [1, 0] (by decide) rfl
    exact W.iret (v := ((-1))) hx hb hr (fun t ht hW => ⟨⟨((-1)), (), rfl, by rw [tb_slot, ← er_1, if_pos c_2], by rw [ht]; exact hP, va_K.moved hW.alike hK, hD⟩, hS.F ht⟩) hS.2.2 d_Tb_slotPlace_23
  · refine lv_iload_n hx hb d_Tb_slotPlace_10 rfl (lv_at hl 3 rfl) ?_
    refine lv_if_lt (tgt := 22) hx hb d_Tb_slotPlace_11 (by decide) (fun c_3 => ?_) (fun c_3 => ?_)
    · refine lv_iconst (v := (-1)) hx hb d_Tb_slotPlace_22 (by decide) ?_
      have hP := hP.sub (ws' := [(b0, .inr (4, [.ref h0, .int cl, .int be, .int co, .int le, .int ro, .int sa, .int ks, .ref b1, .ref b2])), (rd, .inl (c3, rl, .inl ra))]) [1, 0] rfl
      have hD := hD.sub (ws' := [(b0, .inr (4, [.ref h0, .int cl, .int be, .int co, .int le, .int ro, .int sa, .int ks, .ref b1, .ref b2])), (rd, .inl (c3, rl, .inl ra))]) [1, 0] (by decide) rfl
      exact W.iret (v := ((-1))) hx hb hr (fun t ht hW => ⟨⟨((-1)), (), rfl, by rw [tb_slot, ← er_1, if_neg c_2, if_pos c_3], by rw [ht]; exact hP, va_K.moved hW.alike hK, hD⟩, hS.F ht⟩) hS.2.2 d_Tb_slotPlace_23
    · refine lv_iload_n hx hb d_Tb_slotPlace_14 rfl (lv_at hl 3 rfl) ?_
      refine lv_iload_n hx hb d_Tb_slotPlace_15 rfl (lv_at hl 0 rfl) ?_
      refine lv_idiv hx hb d_Tb_slotPlace_16 (fun h => by have q := c_2; rw [h] at q; exact q (by decide)) ?_
      refine lv_aload_n hx hb d_Tb_slotPlace_17 rfl (lv_at hl 2 rfl) ?_
      refine va_alen (v := nI rl) hx hb hK hP 0 0 rfl rfl rfl d_Tb_slotPlace_18 ?_
      refine lv_icmp_lt (tgt := 24) hx hb d_Tb_slotPlace_19 (by decide) (fun c_4 => ?_) (fun c_4 => ?_)
      · refine lv_aload_n hx hb d_Tb_slotPlace_24 rfl (lv_at hl 1 rfl) ?_
        refine lv_aload_n hx hb d_Tb_slotPlace_25 rfl (lv_at hl 2 rfl) ?_
        refine lv_iload_n hx hb d_Tb_slotPlace_26 rfl (lv_at hl 3 rfl) ?_
        refine lv_iload_n hx hb d_Tb_slotPlace_27 rfl (lv_at hl 0 rfl) ?_
        refine lv_idiv hx hb d_Tb_slotPlace_28 (fun h => by have q := c_2; rw [h] at q; exact q (by decide)) ?_
        refine va_iald hx hb hK hP 0 0 rfl rfl (div_in c_3 c_2 c_4 hrl) d_Tb_slotPlace_29 ?_
        have hPc := hP.sub (ws' := [(b0, .inr (4, [.ref h0, .int cl, .int be, .int co, .int le, .int ro, .int sa, .int ks, .ref b1, .ref b2]))]) [1] rfl
        have hDc := hD.sub (ws' := [(b0, .inr (4, [.ref h0, .int cl, .int be, .int co, .int le, .int ro, .int sa, .int ks, .ref b1, .ref b2]))]) [1] (by decide) rfl
        have hKc := hK.sub (tys' := []) [] rfl
        have hFc := va_free (wc := [(b0, .inr (4, [.ref h0, .int cl, .int be, .int co, .int le, .int ro, .int sa, .int ks, .ref b1, .ref b2]))]) hD hS hA [1] rfl
        refine va_calli (va_runV (As := [.int (ra (p2 / r_1).toNatClampNeg)]) (rest := []) ⟨hx, hb, hml, hown, hts⟩ (c_Tb_place l dC dI b0 b1 b2 h0 H.size cl be co le ro sa ks (ra (p2 / r_1).toNatClampNeg)) (cwV 1 hts (gwV good_Tb (k_Tb_56) (k_Tb_57) (k_Tb_58) (k_Tb_0) (wcs (k_Tb_59) (fun _ h => h))) rfl rfl rfl (by decide +kernel) ⟨Nat.le_of_ble_eq_true rfl, Nat.le_of_ble_eq_true rfl⟩) (pv_of hPc hKc hDc (va_recv hKc hPc (ci := 4) (q0 := 0) rfl rfl)) rfl rfl hl.1 rfl (lv_room (Nat.le_of_ble_eq_true rfl)) d_Tb_slotPlace_30 ⟨by decide, by decide⟩) hS (fun q _ h => hFc q h) hFc (fun r_5 u t H1 locs ht hvm hw hB hz1 hk1 hS => ?_)
        have er_5 := hw
        obtain ⟨hP1, hK1, hD1⟩ := hB
        rw [ht] at hP1
        have hP1 : va_P (dC, dI) classes [(b0, .inr (4, [.ref h0, .int cl, .int be, .int co, .int le, .int ro, .int sa, .int ks, .ref b1, .ref b2]))] H1 := hP1
        have hD1 : va_D _ [(b0, .inr (4, [.ref h0, .int cl, .int be, .int co, .int le, .int ro, .int sa, .int ks, .ref b1, .ref b2]))] := hD1
        obtain ⟨hP, hD⟩ := va_join (wr := [(rd, .inl (c3, rl, .inl ra))]) (w1 := [(b0, .inr (4, [.ref h0, .int cl, .int be, .int co, .int le, .int ro, .int sa, .int ks, .ref b1, .ref b2]))]) hP hD [1] [0] rfl rfl (by decide) (by decide) hk1 hFc hP1 hD1
        generalize H1 = H at hP hS ⊢
        have hP : va_P (dC, dI) classes [(rd, .inl (c3, rl, .inl ra)), (b0, .inr (4, [.ref h0, .int cl, .int be, .int co, .int le, .int ro, .int sa, .int ks, .ref b1, .ref b2]))] H := hP
        have hD : va_D A [(rd, .inl (c3, rl, .inl ra)), (b0, .inr (4, [.ref h0, .int cl, .int be, .int co, .int le, .int ro, .int sa, .int ks, .ref b1, .ref b2]))] := hD
        refine lv_iload_n hx hb d_Tb_slotPlace_33 rfl (lv_at hl 3 rfl) ?_
        refine lv_iload_n hx hb d_Tb_slotPlace_34 rfl (lv_at hl 0 rfl) ?_
        refine lv_irem hx hb d_Tb_slotPlace_35 (fun h => by have q := c_2; rw [h] at q; exact q (by decide)) ?_
        refine lv_bipush (v := 32) hx hb d_Tb_slotPlace_36 (by decide) ?_
        refine lv_imul hx hb d_Tb_slotPlace_38 ?_
        refine lv_iadd hx hb d_Tb_slotPlace_39 ?_
        have hP := hP.sub (ws' := [(b0, .inr (4, [.ref h0, .int cl, .int be, .int co, .int le, .int ro, .int sa, .int ks, .ref b1, .ref b2])), (rd, .inl (c3, rl, .inl ra))]) [1, 0] rfl
        have hD := hD.sub (ws' := [(b0, .inr (4, [.ref h0, .int cl, .int be, .int co, .int le, .int ro, .int sa, .int ks, .ref b1, .ref b2])), (rd, .inl (c3, rl, .inl ra))]) [1, 0] (by decide) rfl
        exact W.iret (v := (r_5 + ((p2 - p2 / r_1 * r_1) * 32))) hx hb hr (fun t ht hW => ⟨⟨(r_5 + ((p2 - p2 / r_1 * r_1) * 32)), (), rfl, by rw [tb_slot, ← er_1, if_neg c_2, if_neg c_3, if_pos c_4, ← er_5], by rw [ht]; exact hP, va_K.moved hW.alike hK, hD⟩, hS.F ht⟩) hS.2.2 d_Tb_slotPlace_40
      · refine lv_iconst (v := (-1)) hx hb d_Tb_slotPlace_22 (by decide) ?_
        have hP := hP.sub (ws' := [(b0, .inr (4, [.ref h0, .int cl, .int be, .int co, .int le, .int ro, .int sa, .int ks, .ref b1, .ref b2])), (rd, .inl (c3, rl, .inl ra))]) [1, 0] rfl
        have hD := hD.sub (ws' := [(b0, .inr (4, [.ref h0, .int cl, .int be, .int co, .int le, .int ro, .int sa, .int ks, .ref b1, .ref b2])), (rd, .inl (c3, rl, .inl ra))]) [1, 0] (by decide) rfl
        exact W.iret (v := ((-1))) hx hb hr (fun t ht hW => ⟨⟨((-1)), (), rfl, by rw [tb_slot, ← er_1, if_neg c_2, if_neg c_3, if_neg c_4], by rw [ht]; exact hP, va_K.moved hW.alike hK, hD⟩, hS.F ht⟩) hS.2.2 d_Tb_slotPlace_23
