def tr_ssize (cn : Nat) (g2 : Nat → Int32) (p1 p2 : Int32) : (Nat → Int32) := if (tr_has cn p1) = 0 then (g2) else (upd g2 p1.toNatClampNeg p2)
set_option maxHeartbeats 4000000 in
set_option maxRecDepth 100000 in
theorem c_Tr_setSize (l : Launch) (dC : Nat → ClassId) (dI : Nat → Nat → Nat) (t0 sz : Nat) (a0 a1 a2 a3 a4 a5 a6 a7 a8 a9 a10 a11 a12 a13 a14 : Nat) (cn tl : Nat) (lb po : Int32) (k2 : ClassId) (g2 : Nat → Int32) (hcn : cn ≤ tl) (htl : tl < 2 ^ 31) (p1 p2 : Int32) : Met l y_Tr_setSize (.code y_Tr_setSize b_Tr_setSize 3 none :: V_Tr) ({ frames := 1, cells := 0, slots := 0, locals := 21 }) (va_Pc [.ref t0, .int p1, .int p2] (fun U => U.heap.size = sz ∧ at_ (dC, dI) (fun _ => True) [(t0, .inr (5, [.int (nI cn), .int lb, .ref a0, .ref a1, .ref a2, .ref a3, .ref a4, .ref a5, .ref a6, .ref a7, .ref a8, .ref a9, .ref a10, .ref a11, .ref a12, .ref a13, .ref a14, .int po])), (a2, .inl (k2, tl, .inl g2))] [(k2, .int)] U)) (va_Qv (fun u : (Nat → Int32) => u = tr_ssize cn g2 p1 p2) (fun (u : (Nat → Int32)) t => at_ (dC, dI) (va_A [(t0, .inr (5, [.int (nI cn), .int lb, .ref a0, .ref a1, .ref a2, .ref a3, .ref a4, .ref a5, .ref a6, .ref a7, .ref a8, .ref a9, .ref a10, .ref a11, .ref a12, .ref a13, .ref a14, .int po])), (a2, .inl (k2, tl, .inl g2))] sz) [(t0, .inr (5, [.int (nI cn), .int lb, .ref a0, .ref a1, .ref a2, .ref a3, .ref a4, .ref a5, .ref a6, .ref a7, .ref a8, .ref a9, .ref a10, .ref a11, .ref a12, .ref a13, .ref a14, .int po])), (a2, .inl (k2, tl, .inl u))] [(k2, .int)] t) (va_A [(t0, .inr (5, [.int (nI cn), .int lb, .ref a0, .ref a1, .ref a2, .ref a3, .ref a4, .ref a5, .ref a6, .ref a7, .ref a8, .ref a9, .ref a10, .ref a11, .ref a12, .ref a13, .ref a14, .int po])), (a2, .inl (k2, tl, .inl g2))] sz)) 0 0 (va_A [(t0, .inr (5, [.int (nI cn), .int lb, .ref a0, .ref a1, .ref a2, .ref a3, .ref a4, .ref a5, .ref a6, .ref a7, .ref a8, .ref a9, .ref a10, .ref a11, .ref a12, .ref a13, .ref a14, .int po])), (a2, .inl (k2, tl, .inl g2))] sz) := by
  refine Met.ofW (cc := b_Tr_setSize) (maxL := 3) (ret := none) (by decide) rfl ?_
  intro p e s m args below meth c s₁ B hml hv
  obtain ⟨rfl, hsz, hP, hK, hD0⟩ := hv
  have hx := B.exec
  have hb := B.bytes
  have hr := B.returns
  have hts0 := atoms_spec (ws := .code y_Tr_setSize b_Tr_setSize 3 none :: V_Tr) B.pre
  have hts : ∀ w ∈ V_Tr, w.before ([.ref t0, .int p1, .int p2] : List Value).toArray s = true := fun w h => hts0 w (List.mem_cons_of_mem _ h)
  have hown : s.vm.findClass R_Tr = some m.cls := findClass_of_methodNamed B.named
  have hlocks := B.notSynchronized
  subst hsz
  have hD := hD0.self (sz := s.heap.size)
  generalize hAe : va_A [(t0, .inr (5, [.int (nI cn), .int lb, .ref a0, .ref a1, .ref a2, .ref a3, .ref a4, .ref a5, .ref a6, .ref a7, .ref a8, .ref a9, .ref a10, .ref a11, .ref a12, .ref a13, .ref a14, .int po])), (a2, .inl (k2, tl, .inl g2))] s.heap.size = A at hD ⊢
  have hA : ∀ q : Nat, s.heap.size ≤ q → A q := fun q h => by rw [← hAe]; exact Or.inr h
  have hS : va_S A s.heap s.heap [] := va_S.rf
  have hP : va_P (dC, dI) classes [(t0, .inr (5, [.int (nI cn), .int lb, .ref a0, .ref a1, .ref a2, .ref a3, .ref a4, .ref a5, .ref a6, .ref a7, .ref a8, .ref a9, .ref a10, .ref a11, .ref a12, .ref a13, .ref a14, .int po])), (a2, .inl (k2, tl, .inl g2))] s.heap := hP
  have hK : va_K (dC, dI) classes [(k2, .int)] s := hK
  have hl := lv_entry ([.ref t0, .int p1, .int p2]) (n := 3) (Nat.le_of_ble_eq_true rfl)
  rw [lg_entry_eq]
  generalize (lg_sl ([.ref t0, .int p1, .int p2]) ++ List.replicate (3 - (lg_sl ([.ref t0, .int p1, .int p2])).length) Slot.unset).toArray = ls at hl ⊢
  have hl : lv_has ls 3 [(0, .ref t0), (1, .int p1), (2, .int p2)] := hl
  refine lv_aload_n hx hb d_Tr_setSize_0 rfl (lv_at hl 0 rfl) ?_
  refine lv_iload_n hx hb d_Tr_setSize_1 rfl (lv_at hl 1 rfl) ?_
  have hPc := hP.sub (ws' := [(t0, .inr (5, [.int (nI cn), .int lb, .ref a0, .ref a1, .ref a2, .ref a3, .ref a4, .ref a5, .ref a6, .ref a7, .ref a8, .ref a9, .ref a10, .ref a11, .ref a12, .ref a13, .ref a14, .int po]))]) [0] rfl
  have hDc := hD.sub (ws' := [(t0, .inr (5, [.int (nI cn), .int lb, .ref a0, .ref a1, .ref a2, .ref a3, .ref a4, .ref a5, .ref a6, .ref a7, .ref a8, .ref a9, .ref a10, .ref a11, .ref a12, .ref a13, .ref a14, .int po]))]) [0] (by decide) rfl
  have hKc := hK.sub (tys' := []) [] rfl
  have hFc := va_free (wc := [(t0, .inr (5, [.int (nI cn), .int lb, .ref a0, .ref a1, .ref a2, .ref a3, .ref a4, .ref a5, .ref a6, .ref a7, .ref a8, .ref a9, .ref a10, .ref a11, .ref a12, .ref a13, .ref a14, .int po]))]) hD hS hA [0] rfl
  refine va_calli (va_runV (As := [.int p1]) (rest := []) ⟨hx, hb, hml, hown, hts⟩ (c_Tr_has l dC dI t0 s.heap.size a0 a1 a2 a3 a4 a5 a6 a7 a8 a9 a10 a11 a12 a13 a14 cn tl lb po p1) (cwV 1 hts (gwV good_Tr (k_Tr_38) (k_Tr_39) (k_Tr_40) (k_Tr_0) (wcs (k_Tr_41) (fun _ h => h))) rfl rfl rfl (by decide +kernel) ⟨Nat.le_of_ble_eq_true rfl, Nat.le_of_ble_eq_true rfl⟩) (pv_of hPc hKc hDc (va_recv hKc hPc (ci := 5) (q0 := 0) rfl rfl)) rfl rfl hl.1 rfl (lv_room (Nat.le_of_ble_eq_true rfl)) d_Tr_setSize_2 ⟨by decide, by decide⟩) hS (fun q _ h => hFc q h) hFc (fun r_1 u t H1 locs ht hvm hw hB hz1 hk1 hS => ?_)
  have er_1 := hw
  obtain ⟨hP1, hK1, hD1⟩ := hB
  rw [ht] at hP1
  have hP1 : va_P (dC, dI) classes [(t0, .inr (5, [.int (nI cn), .int lb, .ref a0, .ref a1, .ref a2, .ref a3, .ref a4, .ref a5, .ref a6, .ref a7, .ref a8, .ref a9, .ref a10, .ref a11, .ref a12, .ref a13, .ref a14, .int po]))] H1 := hP1
  have hD1 : va_D _ [(t0, .inr (5, [.int (nI cn), .int lb, .ref a0, .ref a1, .ref a2, .ref a3, .ref a4, .ref a5, .ref a6, .ref a7, .ref a8, .ref a9, .ref a10, .ref a11, .ref a12, .ref a13, .ref a14, .int po]))] := hD1
  obtain ⟨hP, hD⟩ := va_join (wr := [(a2, .inl (k2, tl, .inl g2))]) (w1 := [(t0, .inr (5, [.int (nI cn), .int lb, .ref a0, .ref a1, .ref a2, .ref a3, .ref a4, .ref a5, .ref a6, .ref a7, .ref a8, .ref a9, .ref a10, .ref a11, .ref a12, .ref a13, .ref a14, .int po]))]) hP hD [0] [1] rfl rfl (by decide) (by decide) hk1 hFc hP1 hD1
  generalize H1 = H at hP hS ⊢
  have hP : va_P (dC, dI) classes [(a2, .inl (k2, tl, .inl g2)), (t0, .inr (5, [.int (nI cn), .int lb, .ref a0, .ref a1, .ref a2, .ref a3, .ref a4, .ref a5, .ref a6, .ref a7, .ref a8, .ref a9, .ref a10, .ref a11, .ref a12, .ref a13, .ref a14, .int po]))] H := hP
  have hD : va_D A [(a2, .inl (k2, tl, .inl g2)), (t0, .inr (5, [.int (nI cn), .int lb, .ref a0, .ref a1, .ref a2, .ref a3, .ref a4, .ref a5, .ref a6, .ref a7, .ref a8, .ref a9, .ref a10, .ref a11, .ref a12, .ref a13, .ref a14, .int po]))] := hD
  refine lv_if_eq (tgt := 15) hx hb d_Tr_setSize_5 (by decide) (fun c_2 => ?_) (fun c_2 => ?_)
  · have hP := hP.sub (ws' := [(t0, .inr (5, [.int (nI cn), .int lb, .ref a0, .ref a1, .ref a2, .ref a3, .ref a4, .ref a5, .ref a6, .ref a7, .ref a8, .ref a9, .ref a10, .ref a11, .ref a12, .ref a13, .ref a14, .int po])), (a2, .inl (k2, tl, .inl g2))]) [1, 0] rfl
    have hD := hD.sub (ws' := [(t0, .inr (5, [.int (nI cn), .int lb, .ref a0, .ref a1, .ref a2, .ref a3, .ref a4, .ref a5, .ref a6, .ref a7, .ref a8, .ref a9, .ref a10, .ref a11, .ref a12, .ref a13, .ref a14, .int po])), (a2, .inl (k2, tl, .inl g2))]) [1, 0] (by decide) rfl
    exact W.vret hx hb hr (fun t ht hW => ⟨⟨g2, rfl, by rw [tr_ssize]; try rw [← er_1]; try rw [if_pos c_2]; try rfl, by rw [ht]; exact hP, va_K.moved hW.alike hK, hD⟩, hS.F ht⟩) hS.2.2 d_Tr_setSize_15
  · refine lv_aload_n hx hb d_Tr_setSize_8 rfl (lv_at hl 0 rfl) ?_
    refine va_get (D := (dC, dI)) (ci := 5) (v := .ref a2) (C := R_Tr) (T := F_Tr) (N := 18) hx hb hts i_Tr hown hK hP 1 rfl rfl 4 (by decide) (hts _ (k_Tr_9)) (fun _ h9 => h9) rfl d_Tr_setSize_9 ?_
    refine lv_iload_n hx hb d_Tr_setSize_12 rfl (lv_at hl 1 rfl) ?_
    refine lv_iload_n hx hb d_Tr_setSize_13 rfl (lv_at hl 2 rfl) ?_
    refine va_iast hx hb hK hP hD hS 0 0 rfl rfl (tr_in (by rw [← er_1]; exact c_2) hcn htl) d_Tr_setSize_14 (fun H locs hP hD hS => ?_)
    have hP : va_P (dC, dI) classes [(a2, .inl (k2, tl, .inl (upd g2 p1.toNatClampNeg p2))), (t0, .inr (5, [.int (nI cn), .int lb, .ref a0, .ref a1, .ref a2, .ref a3, .ref a4, .ref a5, .ref a6, .ref a7, .ref a8, .ref a9, .ref a10, .ref a11, .ref a12, .ref a13, .ref a14, .int po]))] H := hP
    have hD : va_D A [(a2, .inl (k2, tl, .inl (upd g2 p1.toNatClampNeg p2))), (t0, .inr (5, [.int (nI cn), .int lb, .ref a0, .ref a1, .ref a2, .ref a3, .ref a4, .ref a5, .ref a6, .ref a7, .ref a8, .ref a9, .ref a10, .ref a11, .ref a12, .ref a13, .ref a14, .int po]))] := hD
    have hP := hP.sub (ws' := [(t0, .inr (5, [.int (nI cn), .int lb, .ref a0, .ref a1, .ref a2, .ref a3, .ref a4, .ref a5, .ref a6, .ref a7, .ref a8, .ref a9, .ref a10, .ref a11, .ref a12, .ref a13, .ref a14, .int po])), (a2, .inl (k2, tl, .inl (upd g2 p1.toNatClampNeg p2)))]) [1, 0] rfl
    have hD := hD.sub (ws' := [(t0, .inr (5, [.int (nI cn), .int lb, .ref a0, .ref a1, .ref a2, .ref a3, .ref a4, .ref a5, .ref a6, .ref a7, .ref a8, .ref a9, .ref a10, .ref a11, .ref a12, .ref a13, .ref a14, .int po])), (a2, .inl (k2, tl, .inl (upd g2 p1.toNatClampNeg p2)))]) [1, 0] (by decide) rfl
    exact W.vret hx hb hr (fun t ht hW => ⟨⟨upd g2 p1.toNatClampNeg p2, rfl, by rw [tr_ssize]; try rw [← er_1]; try rw [if_neg c_2]; try rfl, by rw [ht]; exact hP, va_K.moved hW.alike hK, hD⟩, hS.F ht⟩) hS.2.2 d_Tr_setSize_15
def tr_sbuilt (cn : Nat) (g12 g13 : Nat → Int32) (p1 p2 p3 : Int32) : (Nat → Int32) × (Nat → Int32) := if (tr_has cn p1) = 0 then ((g12, g13)) else ((upd g12 p1.toNatClampNeg p2, upd g13 p1.toNatClampNeg p3))
set_option maxHeartbeats 4000000 in
set_option maxRecDepth 100000 in
theorem c_Tr_setBuilt (l : Launch) (dC : Nat → ClassId) (dI : Nat → Nat → Nat) (t0 sz : Nat) (a0 a1 a2 a3 a4 a5 a6 a7 a8 a9 a10 a11 a12 a13 a14 : Nat) (cn tl : Nat) (lb po : Int32) (k12 : ClassId) (g12 : Nat → Int32) (k13 : ClassId) (g13 : Nat → Int32) (hcn : cn ≤ tl) (htl : tl < 2 ^ 31) (p1 p2 p3 : Int32) : Met l y_Tr_setBuilt (.code y_Tr_setBuilt b_Tr_setBuilt 4 none :: V_Tr) ({ frames := 1, cells := 0, slots := 0, locals := 21 }) (va_Pc [.ref t0, .int p1, .int p2, .int p3] (fun U => U.heap.size = sz ∧ at_ (dC, dI) (fun _ => True) [(t0, .inr (5, [.int (nI cn), .int lb, .ref a0, .ref a1, .ref a2, .ref a3, .ref a4, .ref a5, .ref a6, .ref a7, .ref a8, .ref a9, .ref a10, .ref a11, .ref a12, .ref a13, .ref a14, .int po])), (a12, .inl (k12, tl, .inl g12)), (a13, .inl (k13, tl, .inl g13))] [(k12, .int), (k13, .int)] U)) (va_Qv (fun u : (Nat → Int32) × (Nat → Int32) => u = tr_sbuilt cn g12 g13 p1 p2 p3) (fun (u : (Nat → Int32) × (Nat → Int32)) t => at_ (dC, dI) (va_A [(t0, .inr (5, [.int (nI cn), .int lb, .ref a0, .ref a1, .ref a2, .ref a3, .ref a4, .ref a5, .ref a6, .ref a7, .ref a8, .ref a9, .ref a10, .ref a11, .ref a12, .ref a13, .ref a14, .int po])), (a12, .inl (k12, tl, .inl g12)), (a13, .inl (k13, tl, .inl g13))] sz) [(t0, .inr (5, [.int (nI cn), .int lb, .ref a0, .ref a1, .ref a2, .ref a3, .ref a4, .ref a5, .ref a6, .ref a7, .ref a8, .ref a9, .ref a10, .ref a11, .ref a12, .ref a13, .ref a14, .int po])), (a12, .inl (k12, tl, .inl u.1)), (a13, .inl (k13, tl, .inl u.2))] [(k12, .int), (k13, .int)] t) (va_A [(t0, .inr (5, [.int (nI cn), .int lb, .ref a0, .ref a1, .ref a2, .ref a3, .ref a4, .ref a5, .ref a6, .ref a7, .ref a8, .ref a9, .ref a10, .ref a11, .ref a12, .ref a13, .ref a14, .int po])), (a12, .inl (k12, tl, .inl g12)), (a13, .inl (k13, tl, .inl g13))] sz)) 0 0 (va_A [(t0, .inr (5, [.int (nI cn), .int lb, .ref a0, .ref a1, .ref a2, .ref a3, .ref a4, .ref a5, .ref a6, .ref a7, .ref a8, .ref a9, .ref a10, .ref a11, .ref a12, .ref a13, .ref a14, .int po])), (a12, .inl (k12, tl, .inl g12)), (a13, .inl (k13, tl, .inl g13))] sz) := by
  refine Met.ofW (cc := b_Tr_setBuilt) (maxL := 4) (ret := none) (by decide) rfl ?_
  intro p e s m args below meth c s₁ B hml hv
  obtain ⟨rfl, hsz, hP, hK, hD0⟩ := hv
  have hx := B.exec
  have hb := B.bytes
  have hr := B.returns
  have hts0 := atoms_spec (ws := .code y_Tr_setBuilt b_Tr_setBuilt 4 none :: V_Tr) B.pre
  have hts : ∀ w ∈ V_Tr, w.before ([.ref t0, .int p1, .int p2, .int p3] : List Value).toArray s = true := fun w h => hts0 w (List.mem_cons_of_mem _ h)
  have hown : s.vm.findClass R_Tr = some m.cls := findClass_of_methodNamed B.named
  have hlocks := B.notSynchronized
  subst hsz
  have hD := hD0.self (sz := s.heap.size)
  generalize hAe : va_A [(t0, .inr (5, [.int (nI cn), .int lb, .ref a0, .ref a1, .ref a2, .ref a3, .ref a4, .ref a5, .ref a6, .ref a7, .ref a8, .ref a9, .ref a10, .ref a11, .ref a12, .ref a13, .ref a14, .int po])), (a12, .inl (k12, tl, .inl g12)), (a13, .inl (k13, tl, .inl g13))] s.heap.size = A at hD ⊢
  have hA : ∀ q : Nat, s.heap.size ≤ q → A q := fun q h => by rw [← hAe]; exact Or.inr h
  have hS : va_S A s.heap s.heap [] := va_S.rf
  have hP : va_P (dC, dI) classes [(t0, .inr (5, [.int (nI cn), .int lb, .ref a0, .ref a1, .ref a2, .ref a3, .ref a4, .ref a5, .ref a6, .ref a7, .ref a8, .ref a9, .ref a10, .ref a11, .ref a12, .ref a13, .ref a14, .int po])), (a12, .inl (k12, tl, .inl g12)), (a13, .inl (k13, tl, .inl g13))] s.heap := hP
  have hK : va_K (dC, dI) classes [(k12, .int), (k13, .int)] s := hK
  have hl := lv_entry ([.ref t0, .int p1, .int p2, .int p3]) (n := 4) (Nat.le_of_ble_eq_true rfl)
  rw [lg_entry_eq]
  generalize (lg_sl ([.ref t0, .int p1, .int p2, .int p3]) ++ List.replicate (4 - (lg_sl ([.ref t0, .int p1, .int p2, .int p3])).length) Slot.unset).toArray = ls at hl ⊢
  have hl : lv_has ls 4 [(0, .ref t0), (1, .int p1), (2, .int p2), (3, .int p3)] := hl
  refine lv_aload_n hx hb d_Tr_setBuilt_0 rfl (lv_at hl 0 rfl) ?_
  refine lv_iload_n hx hb d_Tr_setBuilt_1 rfl (lv_at hl 1 rfl) ?_
  have hPc := hP.sub (ws' := [(t0, .inr (5, [.int (nI cn), .int lb, .ref a0, .ref a1, .ref a2, .ref a3, .ref a4, .ref a5, .ref a6, .ref a7, .ref a8, .ref a9, .ref a10, .ref a11, .ref a12, .ref a13, .ref a14, .int po]))]) [0] rfl
  have hDc := hD.sub (ws' := [(t0, .inr (5, [.int (nI cn), .int lb, .ref a0, .ref a1, .ref a2, .ref a3, .ref a4, .ref a5, .ref a6, .ref a7, .ref a8, .ref a9, .ref a10, .ref a11, .ref a12, .ref a13, .ref a14, .int po]))]) [0] (by decide) rfl
  have hKc := hK.sub (tys' := []) [] rfl
  have hFc := va_free (wc := [(t0, .inr (5, [.int (nI cn), .int lb, .ref a0, .ref a1, .ref a2, .ref a3, .ref a4, .ref a5, .ref a6, .ref a7, .ref a8, .ref a9, .ref a10, .ref a11, .ref a12, .ref a13, .ref a14, .int po]))]) hD hS hA [0] rfl
  refine va_calli (va_runV (As := [.int p1]) (rest := []) ⟨hx, hb, hml, hown, hts⟩ (c_Tr_has l dC dI t0 s.heap.size a0 a1 a2 a3 a4 a5 a6 a7 a8 a9 a10 a11 a12 a13 a14 cn tl lb po p1) (cwV 1 hts (gwV good_Tr (k_Tr_38) (k_Tr_39) (k_Tr_40) (k_Tr_0) (wcs (k_Tr_41) (fun _ h => h))) rfl rfl rfl (by decide +kernel) ⟨Nat.le_of_ble_eq_true rfl, Nat.le_of_ble_eq_true rfl⟩) (pv_of hPc hKc hDc (va_recv hKc hPc (ci := 5) (q0 := 0) rfl rfl)) rfl rfl hl.1 rfl (lv_room (Nat.le_of_ble_eq_true rfl)) d_Tr_setBuilt_2 ⟨by decide, by decide⟩) hS (fun q _ h => hFc q h) hFc (fun r_1 u t H1 locs ht hvm hw hB hz1 hk1 hS => ?_)
  have er_1 := hw
  obtain ⟨hP1, hK1, hD1⟩ := hB
  rw [ht] at hP1
  have hP1 : va_P (dC, dI) classes [(t0, .inr (5, [.int (nI cn), .int lb, .ref a0, .ref a1, .ref a2, .ref a3, .ref a4, .ref a5, .ref a6, .ref a7, .ref a8, .ref a9, .ref a10, .ref a11, .ref a12, .ref a13, .ref a14, .int po]))] H1 := hP1
  have hD1 : va_D _ [(t0, .inr (5, [.int (nI cn), .int lb, .ref a0, .ref a1, .ref a2, .ref a3, .ref a4, .ref a5, .ref a6, .ref a7, .ref a8, .ref a9, .ref a10, .ref a11, .ref a12, .ref a13, .ref a14, .int po]))] := hD1
  obtain ⟨hP, hD⟩ := va_join (wr := [(a12, .inl (k12, tl, .inl g12)), (a13, .inl (k13, tl, .inl g13))]) (w1 := [(t0, .inr (5, [.int (nI cn), .int lb, .ref a0, .ref a1, .ref a2, .ref a3, .ref a4, .ref a5, .ref a6, .ref a7, .ref a8, .ref a9, .ref a10, .ref a11, .ref a12, .ref a13, .ref a14, .int po]))]) hP hD [0] [1, 2] rfl rfl (by decide) (by decide) hk1 hFc hP1 hD1
  generalize H1 = H at hP hS ⊢
  have hP : va_P (dC, dI) classes [(a12, .inl (k12, tl, .inl g12)), (a13, .inl (k13, tl, .inl g13)), (t0, .inr (5, [.int (nI cn), .int lb, .ref a0, .ref a1, .ref a2, .ref a3, .ref a4, .ref a5, .ref a6, .ref a7, .ref a8, .ref a9, .ref a10, .ref a11, .ref a12, .ref a13, .ref a14, .int po]))] H := hP
  have hD : va_D A [(a12, .inl (k12, tl, .inl g12)), (a13, .inl (k13, tl, .inl g13)), (t0, .inr (5, [.int (nI cn), .int lb, .ref a0, .ref a1, .ref a2, .ref a3, .ref a4, .ref a5, .ref a6, .ref a7, .ref a8, .ref a9, .ref a10, .ref a11, .ref a12, .ref a13, .ref a14, .int po]))] := hD
  refine lv_if_eq (tgt := 22) hx hb d_Tr_setBuilt_5 (by decide) (fun c_2 => ?_) (fun c_2 => ?_)
  · have hP := hP.sub (ws' := [(t0, .inr (5, [.int (nI cn), .int lb, .ref a0, .ref a1, .ref a2, .ref a3, .ref a4, .ref a5, .ref a6, .ref a7, .ref a8, .ref a9, .ref a10, .ref a11, .ref a12, .ref a13, .ref a14, .int po])), (a12, .inl (k12, tl, .inl g12)), (a13, .inl (k13, tl, .inl g13))]) [2, 0, 1] rfl
    have hD := hD.sub (ws' := [(t0, .inr (5, [.int (nI cn), .int lb, .ref a0, .ref a1, .ref a2, .ref a3, .ref a4, .ref a5, .ref a6, .ref a7, .ref a8, .ref a9, .ref a10, .ref a11, .ref a12, .ref a13, .ref a14, .int po])), (a12, .inl (k12, tl, .inl g12)), (a13, .inl (k13, tl, .inl g13))]) [2, 0, 1] (by decide) rfl
    exact W.vret hx hb hr (fun t ht hW => ⟨⟨(g12, g13), rfl, by rw [tr_sbuilt]; try rw [← er_1]; try rw [if_pos c_2]; try rfl, by rw [ht]; exact hP, va_K.moved hW.alike hK, hD⟩, hS.F ht⟩) hS.2.2 d_Tr_setBuilt_22
  · refine lv_aload_n hx hb d_Tr_setBuilt_8 rfl (lv_at hl 0 rfl) ?_
    refine va_get (D := (dC, dI)) (ci := 5) (v := .ref a12) (C := R_Tr) (T := F_Tr) (N := 18) hx hb hts i_Tr hown hK hP 2 rfl rfl 14 (by decide) (hts _ (k_Tr_19)) (fun _ h9 => h9) rfl d_Tr_setBuilt_9 ?_
    refine lv_iload_n hx hb d_Tr_setBuilt_12 rfl (lv_at hl 1 rfl) ?_
    refine lv_iload_n hx hb d_Tr_setBuilt_13 rfl (lv_at hl 2 rfl) ?_
    refine va_iast hx hb hK hP hD hS 0 0 rfl rfl (tr_in (by rw [← er_1]; exact c_2) hcn htl) d_Tr_setBuilt_14 (fun H locs hP hD hS => ?_)
    have hP : va_P (dC, dI) classes [(a12, .inl (k12, tl, .inl (upd g12 p1.toNatClampNeg p2))), (a13, .inl (k13, tl, .inl g13)), (t0, .inr (5, [.int (nI cn), .int lb, .ref a0, .ref a1, .ref a2, .ref a3, .ref a4, .ref a5, .ref a6, .ref a7, .ref a8, .ref a9, .ref a10, .ref a11, .ref a12, .ref a13, .ref a14, .int po]))] H := hP
    have hD : va_D A [(a12, .inl (k12, tl, .inl (upd g12 p1.toNatClampNeg p2))), (a13, .inl (k13, tl, .inl g13)), (t0, .inr (5, [.int (nI cn), .int lb, .ref a0, .ref a1, .ref a2, .ref a3, .ref a4, .ref a5, .ref a6, .ref a7, .ref a8, .ref a9, .ref a10, .ref a11, .ref a12, .ref a13, .ref a14, .int po]))] := hD
    refine lv_aload_n hx hb d_Tr_setBuilt_15 rfl (lv_at hl 0 rfl) ?_
    refine va_get (D := (dC, dI)) (ci := 5) (v := .ref a13) (C := R_Tr) (T := F_Tr) (N := 18) hx hb hts i_Tr hown hK hP 2 rfl rfl 15 (by decide) (hts _ (k_Tr_20)) (fun _ h9 => h9) rfl d_Tr_setBuilt_16 ?_
    refine lv_iload_n hx hb d_Tr_setBuilt_19 rfl (lv_at hl 1 rfl) ?_
    refine lv_iload_n hx hb d_Tr_setBuilt_20 rfl (lv_at hl 3 rfl) ?_
    refine va_iast hx hb hK hP hD hS 1 1 rfl rfl (tr_in (by rw [← er_1]; exact c_2) hcn htl) d_Tr_setBuilt_21 (fun H locs hP hD hS => ?_)
    have hP : va_P (dC, dI) classes [(a12, .inl (k12, tl, .inl (upd g12 p1.toNatClampNeg p2))), (a13, .inl (k13, tl, .inl (upd g13 p1.toNatClampNeg p3))), (t0, .inr (5, [.int (nI cn), .int lb, .ref a0, .ref a1, .ref a2, .ref a3, .ref a4, .ref a5, .ref a6, .ref a7, .ref a8, .ref a9, .ref a10, .ref a11, .ref a12, .ref a13, .ref a14, .int po]))] H := hP
    have hD : va_D A [(a12, .inl (k12, tl, .inl (upd g12 p1.toNatClampNeg p2))), (a13, .inl (k13, tl, .inl (upd g13 p1.toNatClampNeg p3))), (t0, .inr (5, [.int (nI cn), .int lb, .ref a0, .ref a1, .ref a2, .ref a3, .ref a4, .ref a5, .ref a6, .ref a7, .ref a8, .ref a9, .ref a10, .ref a11, .ref a12, .ref a13, .ref a14, .int po]))] := hD
    have hP := hP.sub (ws' := [(t0, .inr (5, [.int (nI cn), .int lb, .ref a0, .ref a1, .ref a2, .ref a3, .ref a4, .ref a5, .ref a6, .ref a7, .ref a8, .ref a9, .ref a10, .ref a11, .ref a12, .ref a13, .ref a14, .int po])), (a12, .inl (k12, tl, .inl (upd g12 p1.toNatClampNeg p2))), (a13, .inl (k13, tl, .inl (upd g13 p1.toNatClampNeg p3)))]) [2, 0, 1] rfl
    have hD := hD.sub (ws' := [(t0, .inr (5, [.int (nI cn), .int lb, .ref a0, .ref a1, .ref a2, .ref a3, .ref a4, .ref a5, .ref a6, .ref a7, .ref a8, .ref a9, .ref a10, .ref a11, .ref a12, .ref a13, .ref a14, .int po])), (a12, .inl (k12, tl, .inl (upd g12 p1.toNatClampNeg p2))), (a13, .inl (k13, tl, .inl (upd g13 p1.toNatClampNeg p3)))]) [2, 0, 1] (by decide) rfl
    exact W.vret hx hb hr (fun t ht hW => ⟨⟨(upd g12 p1.toNatClampNeg p2, upd g13 p1.toNatClampNeg p3), rfl, by rw [tr_sbuilt]; try rw [← er_1]; try rw [if_neg c_2]; try rfl, by rw [ht]; exact hP, va_K.moved hW.alike hK, hD⟩, hS.F ht⟩) hS.2.2 d_Tr_setBuilt_22
def tr_place (cn : Nat) (g1 g4 g5 g6 : Nat → Int32) (p1 p2 p3 p4 p5 : Int32) : (Nat → Int32) × (Nat → Int32) × (Nat → Int32) × (Nat → Int32) := if (tr_has cn p1) = 0 then ((g1, g4, g5, g6)) else ((upd g1 p1.toNatClampNeg p2, upd g4 p1.toNatClampNeg p3, upd g5 p1.toNatClampNeg p4, upd g6 p1.toNatClampNeg p5))
set_option maxHeartbeats 4000000 in
set_option maxRecDepth 100000 in
theorem c_Tr_place (l : Launch) (dC : Nat → ClassId) (dI : Nat → Nat → Nat) (t0 sz : Nat) (a0 a1 a2 a3 a4 a5 a6 a7 a8 a9 a10 a11 a12 a13 a14 : Nat) (cn tl : Nat) (lb po : Int32) (k1 : ClassId) (g1 : Nat → Int32) (k4 : ClassId) (g4 : Nat → Int32) (k5 : ClassId) (g5 : Nat → Int32) (k6 : ClassId) (g6 : Nat → Int32) (hcn : cn ≤ tl) (htl : tl < 2 ^ 31) (p1 p2 p3 p4 p5 : Int32) : Met l y_Tr_place (.code y_Tr_place b_Tr_place 6 none :: V_Tr) ({ frames := 1, cells := 0, slots := 0, locals := 21 }) (va_Pc [.ref t0, .int p1, .int p2, .int p3, .int p4, .int p5] (fun U => U.heap.size = sz ∧ at_ (dC, dI) (fun _ => True) [(t0, .inr (5, [.int (nI cn), .int lb, .ref a0, .ref a1, .ref a2, .ref a3, .ref a4, .ref a5, .ref a6, .ref a7, .ref a8, .ref a9, .ref a10, .ref a11, .ref a12, .ref a13, .ref a14, .int po])), (a1, .inl (k1, tl, .inl g1)), (a4, .inl (k4, tl, .inl g4)), (a5, .inl (k5, tl, .inl g5)), (a6, .inl (k6, tl, .inl g6))] [(k1, .int), (k4, .int), (k5, .int), (k6, .int)] U)) (va_Qv (fun u : (Nat → Int32) × (Nat → Int32) × (Nat → Int32) × (Nat → Int32) => u = tr_place cn g1 g4 g5 g6 p1 p2 p3 p4 p5) (fun (u : (Nat → Int32) × (Nat → Int32) × (Nat → Int32) × (Nat → Int32)) t => at_ (dC, dI) (va_A [(t0, .inr (5, [.int (nI cn), .int lb, .ref a0, .ref a1, .ref a2, .ref a3, .ref a4, .ref a5, .ref a6, .ref a7, .ref a8, .ref a9, .ref a10, .ref a11, .ref a12, .ref a13, .ref a14, .int po])), (a1, .inl (k1, tl, .inl g1)), (a4, .inl (k4, tl, .inl g4)), (a5, .inl (k5, tl, .inl g5)), (a6, .inl (k6, tl, .inl g6))] sz) [(t0, .inr (5, [.int (nI cn), .int lb, .ref a0, .ref a1, .ref a2, .ref a3, .ref a4, .ref a5, .ref a6, .ref a7, .ref a8, .ref a9, .ref a10, .ref a11, .ref a12, .ref a13, .ref a14, .int po])), (a1, .inl (k1, tl, .inl u.1)), (a4, .inl (k4, tl, .inl u.2.1)), (a5, .inl (k5, tl, .inl u.2.2.1)), (a6, .inl (k6, tl, .inl u.2.2.2))] [(k1, .int), (k4, .int), (k5, .int), (k6, .int)] t) (va_A [(t0, .inr (5, [.int (nI cn), .int lb, .ref a0, .ref a1, .ref a2, .ref a3, .ref a4, .ref a5, .ref a6, .ref a7, .ref a8, .ref a9, .ref a10, .ref a11, .ref a12, .ref a13, .ref a14, .int po])), (a1, .inl (k1, tl, .inl g1)), (a4, .inl (k4, tl, .inl g4)), (a5, .inl (k5, tl, .inl g5)), (a6, .inl (k6, tl, .inl g6))] sz)) 0 0 (va_A [(t0, .inr (5, [.int (nI cn), .int lb, .ref a0, .ref a1, .ref a2, .ref a3, .ref a4, .ref a5, .ref a6, .ref a7, .ref a8, .ref a9, .ref a10, .ref a11, .ref a12, .ref a13, .ref a14, .int po])), (a1, .inl (k1, tl, .inl g1)), (a4, .inl (k4, tl, .inl g4)), (a5, .inl (k5, tl, .inl g5)), (a6, .inl (k6, tl, .inl g6))] sz) := by
  refine Met.ofW (cc := b_Tr_place) (maxL := 6) (ret := none) (by decide) rfl ?_
  intro p e s m args below meth c s₁ B hml hv
  obtain ⟨rfl, hsz, hP, hK, hD0⟩ := hv
  have hx := B.exec
  have hb := B.bytes
  have hr := B.returns
  have hts0 := atoms_spec (ws := .code y_Tr_place b_Tr_place 6 none :: V_Tr) B.pre
  have hts : ∀ w ∈ V_Tr, w.before ([.ref t0, .int p1, .int p2, .int p3, .int p4, .int p5] : List Value).toArray s = true := fun w h => hts0 w (List.mem_cons_of_mem _ h)
  have hown : s.vm.findClass R_Tr = some m.cls := findClass_of_methodNamed B.named
  have hlocks := B.notSynchronized
  subst hsz
  have hD := hD0.self (sz := s.heap.size)
  generalize hAe : va_A [(t0, .inr (5, [.int (nI cn), .int lb, .ref a0, .ref a1, .ref a2, .ref a3, .ref a4, .ref a5, .ref a6, .ref a7, .ref a8, .ref a9, .ref a10, .ref a11, .ref a12, .ref a13, .ref a14, .int po])), (a1, .inl (k1, tl, .inl g1)), (a4, .inl (k4, tl, .inl g4)), (a5, .inl (k5, tl, .inl g5)), (a6, .inl (k6, tl, .inl g6))] s.heap.size = A at hD ⊢
  have hA : ∀ q : Nat, s.heap.size ≤ q → A q := fun q h => by rw [← hAe]; exact Or.inr h
  have hS : va_S A s.heap s.heap [] := va_S.rf
  have hP : va_P (dC, dI) classes [(t0, .inr (5, [.int (nI cn), .int lb, .ref a0, .ref a1, .ref a2, .ref a3, .ref a4, .ref a5, .ref a6, .ref a7, .ref a8, .ref a9, .ref a10, .ref a11, .ref a12, .ref a13, .ref a14, .int po])), (a1, .inl (k1, tl, .inl g1)), (a4, .inl (k4, tl, .inl g4)), (a5, .inl (k5, tl, .inl g5)), (a6, .inl (k6, tl, .inl g6))] s.heap := hP
  have hK : va_K (dC, dI) classes [(k1, .int), (k4, .int), (k5, .int), (k6, .int)] s := hK
  have hl := lv_entry ([.ref t0, .int p1, .int p2, .int p3, .int p4, .int p5]) (n := 6) (Nat.le_of_ble_eq_true rfl)
  rw [lg_entry_eq]
  generalize (lg_sl ([.ref t0, .int p1, .int p2, .int p3, .int p4, .int p5]) ++ List.replicate (6 - (lg_sl ([.ref t0, .int p1, .int p2, .int p3, .int p4, .int p5])).length) Slot.unset).toArray = ls at hl ⊢
  have hl : lv_has ls 6 [(0, .ref t0), (1, .int p1), (2, .int p2), (3, .int p3), (4, .int p4), (5, .int p5)] := hl
  refine lv_aload_n hx hb d_Tr_place_0 rfl (lv_at hl 0 rfl) ?_
  refine lv_iload_n hx hb d_Tr_place_1 rfl (lv_at hl 1 rfl) ?_
  have hPc := hP.sub (ws' := [(t0, .inr (5, [.int (nI cn), .int lb, .ref a0, .ref a1, .ref a2, .ref a3, .ref a4, .ref a5, .ref a6, .ref a7, .ref a8, .ref a9, .ref a10, .ref a11, .ref a12, .ref a13, .ref a14, .int po]))]) [0] rfl
  have hDc := hD.sub (ws' := [(t0, .inr (5, [.int (nI cn), .int lb, .ref a0, .ref a1, .ref a2, .ref a3, .ref a4, .ref a5, .ref a6, .ref a7, .ref a8, .ref a9, .ref a10, .ref a11, .ref a12, .ref a13, .ref a14, .int po]))]) [0] (by decide) rfl
  have hKc := hK.sub (tys' := []) [] rfl
  have hFc := va_free (wc := [(t0, .inr (5, [.int (nI cn), .int lb, .ref a0, .ref a1, .ref a2, .ref a3, .ref a4, .ref a5, .ref a6, .ref a7, .ref a8, .ref a9, .ref a10, .ref a11, .ref a12, .ref a13, .ref a14, .int po]))]) hD hS hA [0] rfl
  refine va_calli (va_runV (As := [.int p1]) (rest := []) ⟨hx, hb, hml, hown, hts⟩ (c_Tr_has l dC dI t0 s.heap.size a0 a1 a2 a3 a4 a5 a6 a7 a8 a9 a10 a11 a12 a13 a14 cn tl lb po p1) (cwV 1 hts (gwV good_Tr (k_Tr_38) (k_Tr_39) (k_Tr_40) (k_Tr_0) (wcs (k_Tr_41) (fun _ h => h))) rfl rfl rfl (by decide +kernel) ⟨Nat.le_of_ble_eq_true rfl, Nat.le_of_ble_eq_true rfl⟩) (pv_of hPc hKc hDc (va_recv hKc hPc (ci := 5) (q0 := 0) rfl rfl)) rfl rfl hl.1 rfl (lv_room (Nat.le_of_ble_eq_true rfl)) d_Tr_place_2 ⟨by decide, by decide⟩) hS (fun q _ h => hFc q h) hFc (fun r_1 u t H1 locs ht hvm hw hB hz1 hk1 hS => ?_)
  have er_1 := hw
  obtain ⟨hP1, hK1, hD1⟩ := hB
  rw [ht] at hP1
  have hP1 : va_P (dC, dI) classes [(t0, .inr (5, [.int (nI cn), .int lb, .ref a0, .ref a1, .ref a2, .ref a3, .ref a4, .ref a5, .ref a6, .ref a7, .ref a8, .ref a9, .ref a10, .ref a11, .ref a12, .ref a13, .ref a14, .int po]))] H1 := hP1
  have hD1 : va_D _ [(t0, .inr (5, [.int (nI cn), .int lb, .ref a0, .ref a1, .ref a2, .ref a3, .ref a4, .ref a5, .ref a6, .ref a7, .ref a8, .ref a9, .ref a10, .ref a11, .ref a12, .ref a13, .ref a14, .int po]))] := hD1
  obtain ⟨hP, hD⟩ := va_join (wr := [(a1, .inl (k1, tl, .inl g1)), (a4, .inl (k4, tl, .inl g4)), (a5, .inl (k5, tl, .inl g5)), (a6, .inl (k6, tl, .inl g6))]) (w1 := [(t0, .inr (5, [.int (nI cn), .int lb, .ref a0, .ref a1, .ref a2, .ref a3, .ref a4, .ref a5, .ref a6, .ref a7, .ref a8, .ref a9, .ref a10, .ref a11, .ref a12, .ref a13, .ref a14, .int po]))]) hP hD [0] [1, 2, 3, 4] rfl rfl (by decide) (by decide) hk1 hFc hP1 hD1
  generalize H1 = H at hP hS ⊢
  have hP : va_P (dC, dI) classes [(a1, .inl (k1, tl, .inl g1)), (a4, .inl (k4, tl, .inl g4)), (a5, .inl (k5, tl, .inl g5)), (a6, .inl (k6, tl, .inl g6)), (t0, .inr (5, [.int (nI cn), .int lb, .ref a0, .ref a1, .ref a2, .ref a3, .ref a4, .ref a5, .ref a6, .ref a7, .ref a8, .ref a9, .ref a10, .ref a11, .ref a12, .ref a13, .ref a14, .int po]))] H := hP
  have hD : va_D A [(a1, .inl (k1, tl, .inl g1)), (a4, .inl (k4, tl, .inl g4)), (a5, .inl (k5, tl, .inl g5)), (a6, .inl (k6, tl, .inl g6)), (t0, .inr (5, [.int (nI cn), .int lb, .ref a0, .ref a1, .ref a2, .ref a3, .ref a4, .ref a5, .ref a6, .ref a7, .ref a8, .ref a9, .ref a10, .ref a11, .ref a12, .ref a13, .ref a14, .int po]))] := hD
  refine lv_if_eq (tgt := 38) hx hb d_Tr_place_5 (by decide) (fun c_2 => ?_) (fun c_2 => ?_)
  · have hP := hP.sub (ws' := [(t0, .inr (5, [.int (nI cn), .int lb, .ref a0, .ref a1, .ref a2, .ref a3, .ref a4, .ref a5, .ref a6, .ref a7, .ref a8, .ref a9, .ref a10, .ref a11, .ref a12, .ref a13, .ref a14, .int po])), (a1, .inl (k1, tl, .inl g1)), (a4, .inl (k4, tl, .inl g4)), (a5, .inl (k5, tl, .inl g5)), (a6, .inl (k6, tl, .inl g6))]) [4, 0, 1, 2, 3] rfl
    have hD := hD.sub (ws' := [(t0, .inr (5, [.int (nI cn), .int lb, .ref a0, .ref a1, .ref a2, .ref a3, .ref a4, .ref a5, .ref a6, .ref a7, .ref a8, .ref a9, .ref a10, .ref a11, .ref a12, .ref a13, .ref a14, .int po])), (a1, .inl (k1, tl, .inl g1)), (a4, .inl (k4, tl, .inl g4)), (a5, .inl (k5, tl, .inl g5)), (a6, .inl (k6, tl, .inl g6))]) [4, 0, 1, 2, 3] (by decide) rfl
    exact W.vret hx hb hr (fun t ht hW => ⟨⟨(g1, g4, g5, g6), rfl, by rw [tr_place]; try rw [← er_1]; try rw [if_pos c_2]; try rfl, by rw [ht]; exact hP, va_K.moved hW.alike hK, hD⟩, hS.F ht⟩) hS.2.2 d_Tr_place_38
  · refine lv_aload_n hx hb d_Tr_place_8 rfl (lv_at hl 0 rfl) ?_
    refine va_get (D := (dC, dI)) (ci := 5) (v := .ref a1) (C := R_Tr) (T := F_Tr) (N := 18) hx hb hts i_Tr hown hK hP 4 rfl rfl 3 (by decide) (hts _ (k_Tr_8)) (fun _ h9 => h9) rfl d_Tr_place_9 ?_
    refine lv_iload_n hx hb d_Tr_place_12 rfl (lv_at hl 1 rfl) ?_
    refine lv_iload_n hx hb d_Tr_place_13 rfl (lv_at hl 2 rfl) ?_
    refine va_iast hx hb hK hP hD hS 0 0 rfl rfl (tr_in (by rw [← er_1]; exact c_2) hcn htl) d_Tr_place_14 (fun H locs hP hD hS => ?_)
    have hP : va_P (dC, dI) classes [(a1, .inl (k1, tl, .inl (upd g1 p1.toNatClampNeg p2))), (a4, .inl (k4, tl, .inl g4)), (a5, .inl (k5, tl, .inl g5)), (a6, .inl (k6, tl, .inl g6)), (t0, .inr (5, [.int (nI cn), .int lb, .ref a0, .ref a1, .ref a2, .ref a3, .ref a4, .ref a5, .ref a6, .ref a7, .ref a8, .ref a9, .ref a10, .ref a11, .ref a12, .ref a13, .ref a14, .int po]))] H := hP
    have hD : va_D A [(a1, .inl (k1, tl, .inl (upd g1 p1.toNatClampNeg p2))), (a4, .inl (k4, tl, .inl g4)), (a5, .inl (k5, tl, .inl g5)), (a6, .inl (k6, tl, .inl g6)), (t0, .inr (5, [.int (nI cn), .int lb, .ref a0, .ref a1, .ref a2, .ref a3, .ref a4, .ref a5, .ref a6, .ref a7, .ref a8, .ref a9, .ref a10, .ref a11, .ref a12, .ref a13, .ref a14, .int po]))] := hD
    refine lv_aload_n hx hb d_Tr_place_15 rfl (lv_at hl 0 rfl) ?_
    refine va_get (D := (dC, dI)) (ci := 5) (v := .ref a4) (C := R_Tr) (T := F_Tr) (N := 18) hx hb hts i_Tr hown hK hP 4 rfl rfl 6 (by decide) (hts _ (k_Tr_11)) (fun _ h9 => h9) rfl d_Tr_place_16 ?_
    refine lv_iload_n hx hb d_Tr_place_19 rfl (lv_at hl 1 rfl) ?_
    refine lv_iload_n hx hb d_Tr_place_20 rfl (lv_at hl 3 rfl) ?_
    refine va_iast hx hb hK hP hD hS 1 1 rfl rfl (tr_in (by rw [← er_1]; exact c_2) hcn htl) d_Tr_place_21 (fun H locs hP hD hS => ?_)
    have hP : va_P (dC, dI) classes [(a1, .inl (k1, tl, .inl (upd g1 p1.toNatClampNeg p2))), (a4, .inl (k4, tl, .inl (upd g4 p1.toNatClampNeg p3))), (a5, .inl (k5, tl, .inl g5)), (a6, .inl (k6, tl, .inl g6)), (t0, .inr (5, [.int (nI cn), .int lb, .ref a0, .ref a1, .ref a2, .ref a3, .ref a4, .ref a5, .ref a6, .ref a7, .ref a8, .ref a9, .ref a10, .ref a11, .ref a12, .ref a13, .ref a14, .int po]))] H := hP
    have hD : va_D A [(a1, .inl (k1, tl, .inl (upd g1 p1.toNatClampNeg p2))), (a4, .inl (k4, tl, .inl (upd g4 p1.toNatClampNeg p3))), (a5, .inl (k5, tl, .inl g5)), (a6, .inl (k6, tl, .inl g6)), (t0, .inr (5, [.int (nI cn), .int lb, .ref a0, .ref a1, .ref a2, .ref a3, .ref a4, .ref a5, .ref a6, .ref a7, .ref a8, .ref a9, .ref a10, .ref a11, .ref a12, .ref a13, .ref a14, .int po]))] := hD
    refine lv_aload_n hx hb d_Tr_place_22 rfl (lv_at hl 0 rfl) ?_
    refine va_get (D := (dC, dI)) (ci := 5) (v := .ref a5) (C := R_Tr) (T := F_Tr) (N := 18) hx hb hts i_Tr hown hK hP 4 rfl rfl 7 (by decide) (hts _ (k_Tr_12)) (fun _ h9 => h9) rfl d_Tr_place_23 ?_
    refine lv_iload_n hx hb d_Tr_place_26 rfl (lv_at hl 1 rfl) ?_
    refine lv_iload hx hb d_Tr_place_27 (lv_at hl 4 rfl) ?_
    refine va_iast hx hb hK hP hD hS 2 2 rfl rfl (tr_in (by rw [← er_1]; exact c_2) hcn htl) d_Tr_place_29 (fun H locs hP hD hS => ?_)
    have hP : va_P (dC, dI) classes [(a1, .inl (k1, tl, .inl (upd g1 p1.toNatClampNeg p2))), (a4, .inl (k4, tl, .inl (upd g4 p1.toNatClampNeg p3))), (a5, .inl (k5, tl, .inl (upd g5 p1.toNatClampNeg p4))), (a6, .inl (k6, tl, .inl g6)), (t0, .inr (5, [.int (nI cn), .int lb, .ref a0, .ref a1, .ref a2, .ref a3, .ref a4, .ref a5, .ref a6, .ref a7, .ref a8, .ref a9, .ref a10, .ref a11, .ref a12, .ref a13, .ref a14, .int po]))] H := hP
    have hD : va_D A [(a1, .inl (k1, tl, .inl (upd g1 p1.toNatClampNeg p2))), (a4, .inl (k4, tl, .inl (upd g4 p1.toNatClampNeg p3))), (a5, .inl (k5, tl, .inl (upd g5 p1.toNatClampNeg p4))), (a6, .inl (k6, tl, .inl g6)), (t0, .inr (5, [.int (nI cn), .int lb, .ref a0, .ref a1, .ref a2, .ref a3, .ref a4, .ref a5, .ref a6, .ref a7, .ref a8, .ref a9, .ref a10, .ref a11, .ref a12, .ref a13, .ref a14, .int po]))] := hD
    refine lv_aload_n hx hb d_Tr_place_30 rfl (lv_at hl 0 rfl) ?_
    refine va_get (D := (dC, dI)) (ci := 5) (v := .ref a6) (C := R_Tr) (T := F_Tr) (N := 18) hx hb hts i_Tr hown hK hP 4 rfl rfl 8 (by decide) (hts _ (k_Tr_13)) (fun _ h9 => h9) rfl d_Tr_place_31 ?_
    refine lv_iload_n hx hb d_Tr_place_34 rfl (lv_at hl 1 rfl) ?_
    refine lv_iload hx hb d_Tr_place_35 (lv_at hl 5 rfl) ?_
    refine va_iast hx hb hK hP hD hS 3 3 rfl rfl (tr_in (by rw [← er_1]; exact c_2) hcn htl) d_Tr_place_37 (fun H locs hP hD hS => ?_)
    have hP : va_P (dC, dI) classes [(a1, .inl (k1, tl, .inl (upd g1 p1.toNatClampNeg p2))), (a4, .inl (k4, tl, .inl (upd g4 p1.toNatClampNeg p3))), (a5, .inl (k5, tl, .inl (upd g5 p1.toNatClampNeg p4))), (a6, .inl (k6, tl, .inl (upd g6 p1.toNatClampNeg p5))), (t0, .inr (5, [.int (nI cn), .int lb, .ref a0, .ref a1, .ref a2, .ref a3, .ref a4, .ref a5, .ref a6, .ref a7, .ref a8, .ref a9, .ref a10, .ref a11, .ref a12, .ref a13, .ref a14, .int po]))] H := hP
    have hD : va_D A [(a1, .inl (k1, tl, .inl (upd g1 p1.toNatClampNeg p2))), (a4, .inl (k4, tl, .inl (upd g4 p1.toNatClampNeg p3))), (a5, .inl (k5, tl, .inl (upd g5 p1.toNatClampNeg p4))), (a6, .inl (k6, tl, .inl (upd g6 p1.toNatClampNeg p5))), (t0, .inr (5, [.int (nI cn), .int lb, .ref a0, .ref a1, .ref a2, .ref a3, .ref a4, .ref a5, .ref a6, .ref a7, .ref a8, .ref a9, .ref a10, .ref a11, .ref a12, .ref a13, .ref a14, .int po]))] := hD
    have hP := hP.sub (ws' := [(t0, .inr (5, [.int (nI cn), .int lb, .ref a0, .ref a1, .ref a2, .ref a3, .ref a4, .ref a5, .ref a6, .ref a7, .ref a8, .ref a9, .ref a10, .ref a11, .ref a12, .ref a13, .ref a14, .int po])), (a1, .inl (k1, tl, .inl (upd g1 p1.toNatClampNeg p2))), (a4, .inl (k4, tl, .inl (upd g4 p1.toNatClampNeg p3))), (a5, .inl (k5, tl, .inl (upd g5 p1.toNatClampNeg p4))), (a6, .inl (k6, tl, .inl (upd g6 p1.toNatClampNeg p5)))]) [4, 0, 1, 2, 3] rfl
    have hD := hD.sub (ws' := [(t0, .inr (5, [.int (nI cn), .int lb, .ref a0, .ref a1, .ref a2, .ref a3, .ref a4, .ref a5, .ref a6, .ref a7, .ref a8, .ref a9, .ref a10, .ref a11, .ref a12, .ref a13, .ref a14, .int po])), (a1, .inl (k1, tl, .inl (upd g1 p1.toNatClampNeg p2))), (a4, .inl (k4, tl, .inl (upd g4 p1.toNatClampNeg p3))), (a5, .inl (k5, tl, .inl (upd g5 p1.toNatClampNeg p4))), (a6, .inl (k6, tl, .inl (upd g6 p1.toNatClampNeg p5)))]) [4, 0, 1, 2, 3] (by decide) rfl
    exact W.vret hx hb hr (fun t ht hW => ⟨⟨(upd g1 p1.toNatClampNeg p2, upd g4 p1.toNatClampNeg p3, upd g5 p1.toNatClampNeg p4, upd g6 p1.toNatClampNeg p5), rfl, by rw [tr_place]; try rw [← er_1]; try rw [if_neg c_2]; try rfl, by rw [ht]; exact hP, va_K.moved hW.alike hK, hD⟩, hS.F ht⟩) hS.2.2 d_Tr_place_38
