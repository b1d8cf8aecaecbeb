def tr_has (cn : Nat) (p1 : Int32) : Int32 := if p1 < 0 then (0) else if (nI cn) ≤ p1 then (0) else (1)
set_option maxHeartbeats 4000000 in
set_option maxRecDepth 100000 in
theorem c_Tr_has (l : Launch) (dC : Nat → ClassId) (dI : Nat → Nat → Nat) (t0 sz : Nat) (a0 a1 a2 a3 a4 a5 a6 a7 a8 a9 a10 a11 a12 a13 a14 : Nat) (cn tl : Nat) (lb po : Int32) (p1 : Int32) : Met l y_Tr_has (.code y_Tr_has b_Tr_has 2 (some .boolean) :: V_Tr) ({ frames := 0, cells := 0, slots := 0, locals := 0 }) (va_Pc [.ref t0, .int p1] (fun U => U.heap.size = sz ∧ at_ (dC, dI) (fun _ => True) [(t0, .inr (5, [.int (nI cn), .int lb, .ref a0, .ref a1, .ref a2, .ref a3, .ref a4, .ref a5, .ref a6, .ref a7, .ref a8, .ref a9, .ref a10, .ref a11, .ref a12, .ref a13, .ref a14, .int po]))] [] U)) (va_Qi (fun (r : Int32) (u : Unit) => r = tr_has cn p1) (fun (u : Unit) t => at_ (dC, dI) (va_A [(t0, .inr (5, [.int (nI cn), .int lb, .ref a0, .ref a1, .ref a2, .ref a3, .ref a4, .ref a5, .ref a6, .ref a7, .ref a8, .ref a9, .ref a10, .ref a11, .ref a12, .ref a13, .ref a14, .int po]))] sz) [(t0, .inr (5, [.int (nI cn), .int lb, .ref a0, .ref a1, .ref a2, .ref a3, .ref a4, .ref a5, .ref a6, .ref a7, .ref a8, .ref a9, .ref a10, .ref a11, .ref a12, .ref a13, .ref a14, .int po]))] [] t) (va_A [(t0, .inr (5, [.int (nI cn), .int lb, .ref a0, .ref a1, .ref a2, .ref a3, .ref a4, .ref a5, .ref a6, .ref a7, .ref a8, .ref a9, .ref a10, .ref a11, .ref a12, .ref a13, .ref a14, .int po]))] sz)) 0 0 (va_A [(t0, .inr (5, [.int (nI cn), .int lb, .ref a0, .ref a1, .ref a2, .ref a3, .ref a4, .ref a5, .ref a6, .ref a7, .ref a8, .ref a9, .ref a10, .ref a11, .ref a12, .ref a13, .ref a14, .int po]))] sz) := by
  refine Met.ofW (cc := b_Tr_has) (maxL := 2) (ret := (some .boolean)) (by decide) rfl ?_
  intro p e s m args below meth c s₁ B hml hv
  obtain ⟨rfl, hsz, hP, hK, hD0⟩ := hv
  have hx := B.exec
  have hb := B.bytes
  have hr := B.returns
  have hts0 := atoms_spec (ws := .code y_Tr_has b_Tr_has 2 (some .boolean) :: V_Tr) B.pre
  have hts : ∀ w ∈ V_Tr, w.before ([.ref t0, .int p1] : List Value).toArray s = true := fun w h => hts0 w (List.mem_cons_of_mem _ h)
  have hown : s.vm.findClass R_Tr = some m.cls := findClass_of_methodNamed B.named
  have hlocks := B.notSynchronized
  subst hsz
  have hD := hD0.self (sz := s.heap.size)
  generalize hAe : va_A [(t0, .inr (5, [.int (nI cn), .int lb, .ref a0, .ref a1, .ref a2, .ref a3, .ref a4, .ref a5, .ref a6, .ref a7, .ref a8, .ref a9, .ref a10, .ref a11, .ref a12, .ref a13, .ref a14, .int po]))] s.heap.size = A at hD ⊢
  have hA : ∀ q : Nat, s.heap.size ≤ q → A q := fun q h => by rw [← hAe]; exact Or.inr h
  have hS : va_S A s.heap s.heap [] := va_S.rf
  have hP : va_P (dC, dI) classes [(t0, .inr (5, [.int (nI cn), .int lb, .ref a0, .ref a1, .ref a2, .ref a3, .ref a4, .ref a5, .ref a6, .ref a7, .ref a8, .ref a9, .ref a10, .ref a11, .ref a12, .ref a13, .ref a14, .int po]))] s.heap := hP
  have hK : va_K (dC, dI) classes [] s := hK
  have hl := lv_entry ([.ref t0, .int p1]) (n := 2) (Nat.le_of_ble_eq_true rfl)
  rw [lg_entry_eq]
  generalize (lg_sl ([.ref t0, .int p1]) ++ List.replicate (2 - (lg_sl ([.ref t0, .int p1])).length) Slot.unset).toArray = ls at hl ⊢
  have hl : lv_has ls 2 [(0, .ref t0), (1, .int p1)] := hl
  refine lv_iload_n hx hb d_Tr_has_0 rfl (lv_at hl 1 rfl) ?_
  refine lv_if_lt (tgt := 16) hx hb d_Tr_has_1 (by decide) (fun c_1 => ?_) (fun c_1 => ?_)
  · refine lv_iconst (v := 0) hx hb d_Tr_has_16 (by decide) ?_
    exact W.zret (v := 0) hx hb hr rfl (fun t ht hW => ⟨⟨0, (), rfl, by rw [tr_has, if_pos c_1], by rw [ht]; exact hP, va_K.moved hW.alike hK, hD⟩, hS.F ht⟩) hS.2.2 d_Tr_has_17
  · refine lv_iload_n hx hb d_Tr_has_4 rfl (lv_at hl 1 rfl) ?_
    refine lv_aload_n hx hb d_Tr_has_5 rfl (lv_at hl 0 rfl) ?_
    refine va_get (D := (dC, dI)) (ci := 5) (v := .int (nI cn)) (C := R_Tr) (T := F_Tr) (N := 18) hx hb hts i_Tr hown hK hP 0 rfl rfl 0 (by decide) (hts _ (k_Tr_5)) (fun _ h9 => h9) rfl d_Tr_has_6 ?_
    refine lv_icmp_ge (tgt := 16) hx hb d_Tr_has_9 (by decide) (fun c_2 => ?_) (fun c_2 => ?_)
    · refine lv_iconst (v := 0) hx hb d_Tr_has_16 (by decide) ?_
      exact W.zret (v := 0) hx hb hr rfl (fun t ht hW => ⟨⟨0, (), rfl, by rw [tr_has, if_neg c_1, if_pos c_2], by rw [ht]; exact hP, va_K.moved hW.alike hK, hD⟩, hS.F ht⟩) hS.2.2 d_Tr_has_17
    · refine lv_iconst (v := 1) hx hb d_Tr_has_12 (by decide) ?_
      refine lv_goto (tgt := 17) hx hb d_Tr_has_13 (by decide) ?_
      exact W.zret (v := 1) hx hb hr rfl (fun t ht hW => ⟨⟨1, (), rfl, by rw [tr_has, if_neg c_1, if_neg c_2], by rw [ht]; exact hP, va_K.moved hW.alike hK, hD⟩, hS.F ht⟩) hS.2.2 d_Tr_has_17
theorem tr_in {cn tl : Nat} {x : Int32} (h : ¬ tr_has cn x = 0) (hc : cn ≤ tl) (ht : tl < 2 ^ 31) : vp_in x tl := by
  unfold tr_has at h
  by_cases h0 : x < 0
  · rw [if_pos h0] at h; exact absurd rfl h
  · rw [if_neg h0] at h
    by_cases h1 : nI cn ≤ x
    · rw [if_pos h1] at h; exact absurd rfl h
    · obtain ⟨j, hj, rfl⟩ := vp_in_of (in_of h0 h1 (by omega)) (by omega)
      exact vp_in_nI (by omega) ht
def tr_dir (cn : Nat) (g3 : Nat → Int32) (p1 : Int32) : Int32 := if (tr_has cn p1) = 0 then (0) else if ((g3 p1.toNatClampNeg) &&& 16) = 0 then (0) else (1)
set_option maxHeartbeats 4000000 in
set_option maxRecDepth 100000 in
theorem c_Tr_isDirectory (l : Launch) (dC : Nat → ClassId) (dI : Nat → Nat → Nat) (t0 sz : Nat) (a0 a1 a2 a3 a4 a5 a6 a7 a8 a9 a10 a11 a12 a13 a14 : Nat) (cn tl : Nat) (lb po : Int32) (k3 : ClassId) (g3 : Nat → Int32) (hcn : cn ≤ tl) (htl : tl < 2 ^ 31) (p1 : Int32) : Met l y_Tr_isDirectory (.code y_Tr_isDirectory b_Tr_isDirectory 2 (some .boolean) :: V_Tr) ({ frames := 1, cells := 0, slots := 0, locals := 21 }) (va_Pc [.ref t0, .int p1] (fun U => U.heap.size = sz ∧ at_ (dC, dI) (fun _ => True) [(t0, .inr (5, [.int (nI cn), .int lb, .ref a0, .ref a1, .ref a2, .ref a3, .ref a4, .ref a5, .ref a6, .ref a7, .ref a8, .ref a9, .ref a10, .ref a11, .ref a12, .ref a13, .ref a14, .int po])), (a3, .inl (k3, tl, .inl g3))] [(k3, .int)] U)) (va_Qi (fun (r : Int32) (u : Unit) => r = tr_dir cn g3 p1) (fun (u : Unit) t => at_ (dC, dI) (va_A [(t0, .inr (5, [.int (nI cn), .int lb, .ref a0, .ref a1, .ref a2, .ref a3, .ref a4, .ref a5, .ref a6, .ref a7, .ref a8, .ref a9, .ref a10, .ref a11, .ref a12, .ref a13, .ref a14, .int po])), (a3, .inl (k3, tl, .inl g3))] sz) [(t0, .inr (5, [.int (nI cn), .int lb, .ref a0, .ref a1, .ref a2, .ref a3, .ref a4, .ref a5, .ref a6, .ref a7, .ref a8, .ref a9, .ref a10, .ref a11, .ref a12, .ref a13, .ref a14, .int po])), (a3, .inl (k3, tl, .inl g3))] [(k3, .int)] t) (va_A [(t0, .inr (5, [.int (nI cn), .int lb, .ref a0, .ref a1, .ref a2, .ref a3, .ref a4, .ref a5, .ref a6, .ref a7, .ref a8, .ref a9, .ref a10, .ref a11, .ref a12, .ref a13, .ref a14, .int po])), (a3, .inl (k3, tl, .inl g3))] sz)) 0 0 (va_A [(t0, .inr (5, [.int (nI cn), .int lb, .ref a0, .ref a1, .ref a2, .ref a3, .ref a4, .ref a5, .ref a6, .ref a7, .ref a8, .ref a9, .ref a10, .ref a11, .ref a12, .ref a13, .ref a14, .int po])), (a3, .inl (k3, tl, .inl g3))] sz) := by
  refine Met.ofW (cc := b_Tr_isDirectory) (maxL := 2) (ret := (some .boolean)) (by decide) rfl ?_
  intro p e s m args below meth c s₁ B hml hv
  obtain ⟨rfl, hsz, hP, hK, hD0⟩ := hv
  have hx := B.exec
  have hb := B.bytes
  have hr := B.returns
  have hts0 := atoms_spec (ws := .code y_Tr_isDirectory b_Tr_isDirectory 2 (some .boolean) :: V_Tr) B.pre
  have hts : ∀ w ∈ V_Tr, w.before ([.ref t0, .int p1] : List Value).toArray s = true := fun w h => hts0 w (List.mem_cons_of_mem _ h)
  have hown : s.vm.findClass R_Tr = some m.cls := findClass_of_methodNamed B.named
  have hlocks := B.notSynchronized
  subst hsz
  have hD := hD0.self (sz := s.heap.size)
  generalize hAe : va_A [(t0, .inr (5, [.int (nI cn), .int lb, .ref a0, .ref a1, .ref a2, .ref a3, .ref a4, .ref a5, .ref a6, .ref a7, .ref a8, .ref a9, .ref a10, .ref a11, .ref a12, .ref a13, .ref a14, .int po])), (a3, .inl (k3, tl, .inl g3))] s.heap.size = A at hD ⊢
  have hA : ∀ q : Nat, s.heap.size ≤ q → A q := fun q h => by rw [← hAe]; exact Or.inr h
  have hS : va_S A s.heap s.heap [] := va_S.rf
  have hP : va_P (dC, dI) classes [(t0, .inr (5, [.int (nI cn), .int lb, .ref a0, .ref a1, .ref a2, .ref a3, .ref a4, .ref a5, .ref a6, .ref a7, .ref a8, .ref a9, .ref a10, .ref a11, .ref a12, .ref a13, .ref a14, .int po])), (a3, .inl (k3, tl, .inl g3))] s.heap := hP
  have hK : va_K (dC, dI) classes [(k3, .int)] s := hK
  have hl := lv_entry ([.ref t0, .int p1]) (n := 2) (Nat.le_of_ble_eq_true rfl)
  rw [lg_entry_eq]
  generalize (lg_sl ([.ref t0, .int p1]) ++ List.replicate (2 - (lg_sl ([.ref t0, .int p1])).length) Slot.unset).toArray = ls at hl ⊢
  have hl : lv_has ls 2 [(0, .ref t0), (1, .int p1)] := hl
  refine lv_aload_n hx hb d_Tr_isDirectory_0 rfl (lv_at hl 0 rfl) ?_
  refine lv_iload_n hx hb d_Tr_isDirectory_1 rfl (lv_at hl 1 rfl) ?_
  have hPc := hP.sub (ws' := [(t0, .inr (5, [.int (nI cn), .int lb, .ref a0, .ref a1, .ref a2, .ref a3, .ref a4, .ref a5, .ref a6, .ref a7, .ref a8, .ref a9, .ref a10, .ref a11, .ref a12, .ref a13, .ref a14, .int po]))]) [0] rfl
  have hDc := hD.sub (ws' := [(t0, .inr (5, [.int (nI cn), .int lb, .ref a0, .ref a1, .ref a2, .ref a3, .ref a4, .ref a5, .ref a6, .ref a7, .ref a8, .ref a9, .ref a10, .ref a11, .ref a12, .ref a13, .ref a14, .int po]))]) [0] (by decide) rfl
  have hKc := hK.sub (tys' := []) [] rfl
  have hFc := va_free (wc := [(t0, .inr (5, [.int (nI cn), .int lb, .ref a0, .ref a1, .ref a2, .ref a3, .ref a4, .ref a5, .ref a6, .ref a7, .ref a8, .ref a9, .ref a10, .ref a11, .ref a12, .ref a13, .ref a14, .int po]))]) hD hS hA [0] rfl
  refine va_calli (va_runV (As := [.int p1]) (rest := []) ⟨hx, hb, hml, hown, hts⟩ (c_Tr_has l dC dI t0 s.heap.size a0 a1 a2 a3 a4 a5 a6 a7 a8 a9 a10 a11 a12 a13 a14 cn tl lb po p1) (cwV 1 hts (gwV good_Tr (k_Tr_38) (k_Tr_39) (k_Tr_40) (k_Tr_0) (wcs (k_Tr_41) (fun _ h => h))) rfl rfl rfl (by decide +kernel) ⟨Nat.le_of_ble_eq_true rfl, Nat.le_of_ble_eq_true rfl⟩) (pv_of hPc hKc hDc (va_recv hKc hPc (ci := 5) (q0 := 0) rfl rfl)) rfl rfl hl.1 rfl (lv_room (Nat.le_of_ble_eq_true rfl)) d_Tr_isDirectory_2 ⟨by decide, by decide⟩) hS (fun q _ h => hFc q h) hFc (fun r_1 u t H1 locs ht hvm hw hB hz1 hk1 hS => ?_)
  have er_1 := hw
  obtain ⟨hP1, hK1, hD1⟩ := hB
  rw [ht] at hP1
  have hP1 : va_P (dC, dI) classes [(t0, .inr (5, [.int (nI cn), .int lb, .ref a0, .ref a1, .ref a2, .ref a3, .ref a4, .ref a5, .ref a6, .ref a7, .ref a8, .ref a9, .ref a10, .ref a11, .ref a12, .ref a13, .ref a14, .int po]))] H1 := hP1
  have hD1 : va_D _ [(t0, .inr (5, [.int (nI cn), .int lb, .ref a0, .ref a1, .ref a2, .ref a3, .ref a4, .ref a5, .ref a6, .ref a7, .ref a8, .ref a9, .ref a10, .ref a11, .ref a12, .ref a13, .ref a14, .int po]))] := hD1
  obtain ⟨hP, hD⟩ := va_join (wr := [(a3, .inl (k3, tl, .inl g3))]) (w1 := [(t0, .inr (5, [.int (nI cn), .int lb, .ref a0, .ref a1, .ref a2, .ref a3, .ref a4, .ref a5, .ref a6, .ref a7, .ref a8, .ref a9, .ref a10, .ref a11, .ref a12, .ref a13, .ref a14, .int po]))]) hP hD [0] [1] rfl rfl (by decide) (by decide) hk1 hFc hP1 hD1
  generalize H1 = H at hP hS ⊢
  have hP : va_P (dC, dI) classes [(a3, .inl (k3, tl, .inl g3)), (t0, .inr (5, [.int (nI cn), .int lb, .ref a0, .ref a1, .ref a2, .ref a3, .ref a4, .ref a5, .ref a6, .ref a7, .ref a8, .ref a9, .ref a10, .ref a11, .ref a12, .ref a13, .ref a14, .int po]))] H := hP
  have hD : va_D A [(a3, .inl (k3, tl, .inl g3)), (t0, .inr (5, [.int (nI cn), .int lb, .ref a0, .ref a1, .ref a2, .ref a3, .ref a4, .ref a5, .ref a6, .ref a7, .ref a8, .ref a9, .ref a10, .ref a11, .ref a12, .ref a13, .ref a14, .int po]))] := hD
  refine lv_if_eq (tgt := 24) hx hb d_Tr_isDirectory_5 (by decide) (fun c_2 => ?_) (fun c_2 => ?_)
  · refine lv_iconst (v := 0) hx hb d_Tr_isDirectory_24 (by decide) ?_
    have hP := hP.sub (ws' := [(t0, .inr (5, [.int (nI cn), .int lb, .ref a0, .ref a1, .ref a2, .ref a3, .ref a4, .ref a5, .ref a6, .ref a7, .ref a8, .ref a9, .ref a10, .ref a11, .ref a12, .ref a13, .ref a14, .int po])), (a3, .inl (k3, tl, .inl g3))]) [1, 0] rfl
    have hD := hD.sub (ws' := [(t0, .inr (5, [.int (nI cn), .int lb, .ref a0, .ref a1, .ref a2, .ref a3, .ref a4, .ref a5, .ref a6, .ref a7, .ref a8, .ref a9, .ref a10, .ref a11, .ref a12, .ref a13, .ref a14, .int po])), (a3, .inl (k3, tl, .inl g3))]) [1, 0] (by decide) rfl
    exact W.zret (v := 0) hx hb hr rfl (fun t ht hW => ⟨⟨0, (), rfl, by rw [tr_dir, ← er_1, if_pos c_2], by rw [ht]; exact hP, va_K.moved hW.alike hK, hD⟩, hS.F ht⟩) hS.2.2 d_Tr_isDirectory_25
  · refine lv_aload_n hx hb d_Tr_isDirectory_8 rfl (lv_at hl 0 rfl) ?_
    refine va_get (D := (dC, dI)) (ci := 5) (v := .ref a3) (C := R_Tr) (T := F_Tr) (N := 18) hx hb hts i_Tr hown hK hP 1 rfl rfl 5 (by decide) (hts _ (k_Tr_10)) (fun _ h9 => h9) rfl d_Tr_isDirectory_9 ?_
    refine lv_iload_n hx hb d_Tr_isDirectory_12 rfl (lv_at hl 1 rfl) ?_
    refine va_iald hx hb hK hP 0 0 rfl rfl (tr_in (by rw [← er_1]; exact c_2) hcn htl) d_Tr_isDirectory_13 ?_
    refine lv_bipush (v := 16) hx hb d_Tr_isDirectory_14 (by decide) ?_
    refine lv_iand hx hb d_Tr_isDirectory_16 ?_
    refine lv_if_eq (tgt := 24) hx hb d_Tr_isDirectory_17 (by decide) (fun c_3 => ?_) (fun c_3 => ?_)
    · refine lv_iconst (v := 0) hx hb d_Tr_isDirectory_24 (by decide) ?_
      have hP := hP.sub (ws' := [(t0, .inr (5, [.int (nI cn), .int lb, .ref a0, .ref a1, .ref a2, .ref a3, .ref a4, .ref a5, .ref a6, .ref a7, .ref a8, .ref a9, .ref a10, .ref a11, .ref a12, .ref a13, .ref a14, .int po])), (a3, .inl (k3, tl, .inl g3))]) [1, 0] rfl
      have hD := hD.sub (ws' := [(t0, .inr (5, [.int (nI cn), .int lb, .ref a0, .ref a1, .ref a2, .ref a3, .ref a4, .ref a5, .ref a6, .ref a7, .ref a8, .ref a9, .ref a10, .ref a11, .ref a12, .ref a13, .ref a14, .int po])), (a3, .inl (k3, tl, .inl g3))]) [1, 0] (by decide) rfl
      exact W.zret (v := 0) hx hb hr rfl (fun t ht hW => ⟨⟨0, (), rfl, by rw [tr_dir, ← er_1, if_neg c_2, if_pos c_3], by rw [ht]; exact hP, va_K.moved hW.alike hK, hD⟩, hS.F ht⟩) hS.2.2 d_Tr_isDirectory_25
    · refine lv_iconst (v := 1) hx hb d_Tr_isDirectory_20 (by decide) ?_
      refine lv_goto (tgt := 25) hx hb d_Tr_isDirectory_21 (by decide) ?_
      have hP := hP.sub (ws' := [(t0, .inr (5, [.int (nI cn), .int lb, .ref a0, .ref a1, .ref a2, .ref a3, .ref a4, .ref a5, .ref a6, .ref a7, .ref a8, .ref a9, .ref a10, .ref a11, .ref a12, .ref a13, .ref a14, .int po])), (a3, .inl (k3, tl, .inl g3))]) [1, 0] rfl
      have hD := hD.sub (ws' := [(t0, .inr (5, [.int (nI cn), .int lb, .ref a0, .ref a1, .ref a2, .ref a3, .ref a4, .ref a5, .ref a6, .ref a7, .ref a8, .ref a9, .ref a10, .ref a11, .ref a12, .ref a13, .ref a14, .int po])), (a3, .inl (k3, tl, .inl g3))]) [1, 0] (by decide) rfl
      exact W.zret (v := 1) hx hb hr rfl (fun t ht hW => ⟨⟨1, (), rfl, by rw [tr_dir, ← er_1, if_neg c_2, if_neg c_3], by rw [ht]; exact hP, va_K.moved hW.alike hK, hD⟩, hS.F ht⟩) hS.2.2 d_Tr_isDirectory_25
def tr_cnt (cn : Nat) (g8 : Nat → Int32) (p1 : Int32) : Int32 := if (tr_has cn p1) = 0 then (0) else (g8 p1.toNatClampNeg)
set_option maxHeartbeats 4000000 in
set_option maxRecDepth 100000 in
theorem c_Tr_countIn (l : Launch) (dC : Nat → ClassId) (dI : Nat → Nat → Nat) (t0 sz : Nat) (a0 a1 a2 a3 a4 a5 a6 a7 a8 a9 a10 a11 a12 a13 a14 : Nat) (cn tl : Nat) (lb po : Int32) (k8 : ClassId) (g8 : Nat → Int32) (hcn : cn ≤ tl) (htl : tl < 2 ^ 31) (p1 : Int32) : Met l y_Tr_countIn (.code y_Tr_countIn b_Tr_countIn 2 (some .int) :: V_Tr) ({ frames := 1, cells := 0, slots := 0, locals := 21 }) (va_Pc [.ref t0, .int p1] (fun U => U.heap.size = sz ∧ at_ (dC, dI) (fun _ => True) [(t0, .inr (5, [.int (nI cn), .int lb, .ref a0, .ref a1, .ref a2, .ref a3, .ref a4, .ref a5, .ref a6, .ref a7, .ref a8, .ref a9, .ref a10, .ref a11, .ref a12, .ref a13, .ref a14, .int po])), (a8, .inl (k8, tl, .inl g8))] [(k8, .int)] U)) (va_Qi (fun (r : Int32) (u : Unit) => r = tr_cnt cn g8 p1) (fun (u : Unit) t => at_ (dC, dI) (va_A [(t0, .inr (5, [.int (nI cn), .int lb, .ref a0, .ref a1, .ref a2, .ref a3, .ref a4, .ref a5, .ref a6, .ref a7, .ref a8, .ref a9, .ref a10, .ref a11, .ref a12, .ref a13, .ref a14, .int po])), (a8, .inl (k8, tl, .inl g8))] sz) [(t0, .inr (5, [.int (nI cn), .int lb, .ref a0, .ref a1, .ref a2, .ref a3, .ref a4, .ref a5, .ref a6, .ref a7, .ref a8, .ref a9, .ref a10, .ref a11, .ref a12, .ref a13, .ref a14, .int po])), (a8, .inl (k8, tl, .inl g8))] [(k8, .int)] t) (va_A [(t0, .inr (5, [.int (nI cn), .int lb, .ref a0, .ref a1, .ref a2, .ref a3, .ref a4, .ref a5, .ref a6, .ref a7, .ref a8, .ref a9, .ref a10, .ref a11, .ref a12, .ref a13, .ref a14, .int po])), (a8, .inl (k8, tl, .inl g8))] sz)) 0 0 (va_A [(t0, .inr (5, [.int (nI cn), .int lb, .ref a0, .ref a1, .ref a2, .ref a3, .ref a4, .ref a5, .ref a6, .ref a7, .ref a8, .ref a9, .ref a10, .ref a11, .ref a12, .ref a13, .ref a14, .int po])), (a8, .inl (k8, tl, .inl g8))] sz) := by
  refine Met.ofW (cc := b_Tr_countIn) (maxL := 2) (ret := (some .int)) (by decide) rfl ?_
  intro p e s m args below meth c s₁ B hml hv
  obtain ⟨rfl, hsz, hP, hK, hD0⟩ := hv
  have hx := B.exec
  have hb := B.bytes
  have hr := B.returns
  have hts0 := atoms_spec (ws := .code y_Tr_countIn b_Tr_countIn 2 (some .int) :: V_Tr) B.pre
  have hts : ∀ w ∈ V_Tr, w.before ([.ref t0, .int p1] : List Value).toArray s = true := fun w h => hts0 w (List.mem_cons_of_mem _ h)
  have hown : s.vm.findClass R_Tr = some m.cls := findClass_of_methodNamed B.named
  have hlocks := B.notSynchronized
  subst hsz
  have hD := hD0.self (sz := s.heap.size)
  generalize hAe : va_A [(t0, .inr (5, [.int (nI cn), .int lb, .ref a0, .ref a1, .ref a2, .ref a3, .ref a4, .ref a5, .ref a6, .ref a7, .ref a8, .ref a9, .ref a10, .ref a11, .ref a12, .ref a13, .ref a14, .int po])), (a8, .inl (k8, tl, .inl g8))] s.heap.size = A at hD ⊢
  have hA : ∀ q : Nat, s.heap.size ≤ q → A q := fun q h => by rw [← hAe]; exact Or.inr h
  have hS : va_S A s.heap s.heap [] := va_S.rf
  have hP : va_P (dC, dI) classes [(t0, .inr (5, [.int (nI cn), .int lb, .ref a0, .ref a1, .ref a2, .ref a3, .ref a4, .ref a5, .ref a6, .ref a7, .ref a8, .ref a9, .ref a10, .ref a11, .ref a12, .ref a13, .ref a14, .int po])), (a8, .inl (k8, tl, .inl g8))] s.heap := hP
  have hK : va_K (dC, dI) classes [(k8, .int)] s := hK
  have hl := lv_entry ([.ref t0, .int p1]) (n := 2) (Nat.le_of_ble_eq_true rfl)
  rw [lg_entry_eq]
  generalize (lg_sl ([.ref t0, .int p1]) ++ List.replicate (2 - (lg_sl ([.ref t0, .int p1])).length) Slot.unset).toArray = ls at hl ⊢
  have hl : lv_has ls 2 [(0, .ref t0), (1, .int p1)] := hl
  refine lv_aload_n hx hb d_Tr_countIn_0 rfl (lv_at hl 0 rfl) ?_
  refine lv_iload_n hx hb d_Tr_countIn_1 rfl (lv_at hl 1 rfl) ?_
  have hPc := hP.sub (ws' := [(t0, .inr (5, [.int (nI cn), .int lb, .ref a0, .ref a1, .ref a2, .ref a3, .ref a4, .ref a5, .ref a6, .ref a7, .ref a8, .ref a9, .ref a10, .ref a11, .ref a12, .ref a13, .ref a14, .int po]))]) [0] rfl
  have hDc := hD.sub (ws' := [(t0, .inr (5, [.int (nI cn), .int lb, .ref a0, .ref a1, .ref a2, .ref a3, .ref a4, .ref a5, .ref a6, .ref a7, .ref a8, .ref a9, .ref a10, .ref a11, .ref a12, .ref a13, .ref a14, .int po]))]) [0] (by decide) rfl
  have hKc := hK.sub (tys' := []) [] rfl
  have hFc := va_free (wc := [(t0, .inr (5, [.int (nI cn), .int lb, .ref a0, .ref a1, .ref a2, .ref a3, .ref a4, .ref a5, .ref a6, .ref a7, .ref a8, .ref a9, .ref a10, .ref a11, .ref a12, .ref a13, .ref a14, .int po]))]) hD hS hA [0] rfl
  refine va_calli (va_runV (As := [.int p1]) (rest := []) ⟨hx, hb, hml, hown, hts⟩ (c_Tr_has l dC dI t0 s.heap.size a0 a1 a2 a3 a4 a5 a6 a7 a8 a9 a10 a11 a12 a13 a14 cn tl lb po p1) (cwV 1 hts (gwV good_Tr (k_Tr_38) (k_Tr_39) (k_Tr_40) (k_Tr_0) (wcs (k_Tr_41) (fun _ h => h))) rfl rfl rfl (by decide +kernel) ⟨Nat.le_of_ble_eq_true rfl, Nat.le_of_ble_eq_true rfl⟩) (pv_of hPc hKc hDc (va_recv hKc hPc (ci := 5) (q0 := 0) rfl rfl)) rfl rfl hl.1 rfl (lv_room (Nat.le_of_ble_eq_true rfl)) d_Tr_countIn_2 ⟨by decide, by decide⟩) hS (fun q _ h => hFc q h) hFc (fun r_1 u t H1 locs ht hvm hw hB hz1 hk1 hS => ?_)
  have er_1 := hw
  obtain ⟨hP1, hK1, hD1⟩ := hB
  rw [ht] at hP1
  have hP1 : va_P (dC, dI) classes [(t0, .inr (5, [.int (nI cn), .int lb, .ref a0, .ref a1, .ref a2, .ref a3, .ref a4, .ref a5, .ref a6, .ref a7, .ref a8, .ref a9, .ref a10, .ref a11, .ref a12, .ref a13, .ref a14, .int po]))] H1 := hP1
  have hD1 : va_D _ [(t0, .inr (5, [.int (nI cn), .int lb, .ref a0, .ref a1, .ref a2, .ref a3, .ref a4, .ref a5, .ref a6, .ref a7, .ref a8, .ref a9, .ref a10, .ref a11, .ref a12, .ref a13, .ref a14, .int po]))] := hD1
  obtain ⟨hP, hD⟩ := va_join (wr := [(a8, .inl (k8, tl, .inl g8))]) (w1 := [(t0, .inr (5, [.int (nI cn), .int lb, .ref a0, .ref a1, .ref a2, .ref a3, .ref a4, .ref a5, .ref a6, .ref a7, .ref a8, .ref a9, .ref a10, .ref a11, .ref a12, .ref a13, .ref a14, .int po]))]) hP hD [0] [1] rfl rfl (by decide) (by decide) hk1 hFc hP1 hD1
  generalize H1 = H at hP hS ⊢
  have hP : va_P (dC, dI) classes [(a8, .inl (k8, tl, .inl g8)), (t0, .inr (5, [.int (nI cn), .int lb, .ref a0, .ref a1, .ref a2, .ref a3, .ref a4, .ref a5, .ref a6, .ref a7, .ref a8, .ref a9, .ref a10, .ref a11, .ref a12, .ref a13, .ref a14, .int po]))] H := hP
  have hD : va_D A [(a8, .inl (k8, tl, .inl g8)), (t0, .inr (5, [.int (nI cn), .int lb, .ref a0, .ref a1, .ref a2, .ref a3, .ref a4, .ref a5, .ref a6, .ref a7, .ref a8, .ref a9, .ref a10, .ref a11, .ref a12, .ref a13, .ref a14, .int po]))] := hD
  refine lv_if_eq (tgt := 17) hx hb d_Tr_countIn_5 (by decide) (fun c_2 => ?_) (fun c_2 => ?_)
  · refine lv_iconst (v := 0) hx hb d_Tr_countIn_17 (by decide) ?_
    have hP := hP.sub (ws' := [(t0, .inr (5, [.int (nI cn), .int lb, .ref a0, .ref a1, .ref a2, .ref a3, .ref a4, .ref a5, .ref a6, .ref a7, .ref a8, .ref a9, .ref a10, .ref a11, .ref a12, .ref a13, .ref a14, .int po])), (a8, .inl (k8, tl, .inl g8))]) [1, 0] rfl
    have hD := hD.sub (ws' := [(t0, .inr (5, [.int (nI cn), .int lb, .ref a0, .ref a1, .ref a2, .ref a3, .ref a4, .ref a5, .ref a6, .ref a7, .ref a8, .ref a9, .ref a10, .ref a11, .ref a12, .ref a13, .ref a14, .int po])), (a8, .inl (k8, tl, .inl g8))]) [1, 0] (by decide) rfl
    exact W.iret (v := 0) hx hb hr (fun t ht hW => ⟨⟨0, (), rfl, by rw [tr_cnt, ← er_1, if_pos c_2], by rw [ht]; exact hP, va_K.moved hW.alike hK, hD⟩, hS.F ht⟩) hS.2.2 d_Tr_countIn_18
  · refine lv_aload_n hx hb d_Tr_countIn_8 rfl (lv_at hl 0 rfl) ?_
    refine va_get (D := (dC, dI)) (ci := 5) (v := .ref a8) (C := R_Tr) (T := F_Tr) (N := 18) hx hb hts i_Tr hown hK hP 1 rfl rfl 10 (by decide) (hts _ (k_Tr_15)) (fun _ h9 => h9) rfl d_Tr_countIn_9 ?_
    refine lv_iload_n hx hb d_Tr_countIn_12 rfl (lv_at hl 1 rfl) ?_
    refine va_iald hx hb hK hP 0 0 rfl rfl (tr_in (by rw [← er_1]; exact c_2) hcn htl) d_Tr_countIn_13 ?_
    refine lv_goto (tgt := 18) hx hb d_Tr_countIn_14 (by decide) ?_
    have hP := hP.sub (ws' := [(t0, .inr (5, [.int (nI cn), .int lb, .ref a0, .ref a1, .ref a2, .ref a3, .ref a4, .ref a5, .ref a6, .ref a7, .ref a8, .ref a9, .ref a10, .ref a11, .ref a12, .ref a13, .ref a14, .int po])), (a8, .inl (k8, tl, .inl g8))]) [1, 0] rfl
    have hD := hD.sub (ws' := [(t0, .inr (5, [.int (nI cn), .int lb, .ref a0, .ref a1, .ref a2, .ref a3, .ref a4, .ref a5, .ref a6, .ref a7, .ref a8, .ref a9, .ref a10, .ref a11, .ref a12, .ref a13, .ref a14, .int po])), (a8, .inl (k8, tl, .inl g8))]) [1, 0] (by decide) rfl
    exact W.iret (v := (g8 p1.toNatClampNeg)) hx hb hr (fun t ht hW => ⟨⟨(g8 p1.toNatClampNeg), (), rfl, by rw [tr_cnt, ← er_1, if_neg c_2], by rw [ht]; exact hP, va_K.moved hW.alike hK, hD⟩, hS.F ht⟩) hS.2.2 d_Tr_countIn_18
def tr_par (cn : Nat) (g0 : Nat → Int32) (p1 : Int32) : Int32 := if (tr_has cn p1) = 0 then (0) else (g0 p1.toNatClampNeg)
set_option maxHeartbeats 4000000 in
set_option maxRecDepth 100000 in
theorem c_Tr_parentOf (l : Launch) (dC : Nat → ClassId) (dI : Nat → Nat → Nat) (t0 sz : Nat) (a0 a1 a2 a3 a4 a5 a6 a7 a8 a9 a10 a11 a12 a13 a14 : Nat) (cn tl : Nat) (lb po : Int32) (k0 : ClassId) (g0 : Nat → Int32) (hcn : cn ≤ tl) (htl : tl < 2 ^ 31) (p1 : Int32) : Met l y_Tr_parentOf (.code y_Tr_parentOf b_Tr_parentOf 2 (some .int) :: V_Tr) ({ frames := 1, cells := 0, slots := 0, locals := 21 }) (va_Pc [.ref t0, .int p1] (fun U => U.heap.size = sz ∧ at_ (dC, dI) (fun _ => True) [(t0, .inr (5, [.int (nI cn), .int lb, .ref a0, .ref a1, .ref a2, .ref a3, .ref a4, .ref a5, .ref a6, .ref a7, .ref a8, .ref a9, .ref a10, .ref a11, .ref a12, .ref a13, .ref a14, .int po])), (a0, .inl (k0, tl, .inl g0))] [(k0, .int)] U)) (va_Qi (fun (r : Int32) (u : Unit) => r = tr_par cn g0 p1) (fun (u : Unit) t => at_ (dC, dI) (va_A [(t0, .inr (5, [.int (nI cn), .int lb, .ref a0, .ref a1, .ref a2, .ref a3, .ref a4, .ref a5, .ref a6, .ref a7, .ref a8, .ref a9, .ref a10, .ref a11, .ref a12, .ref a13, .ref a14, .int po])), (a0, .inl (k0, tl, .inl g0))] sz) [(t0, .inr (5, [.int (nI cn), .int lb, .ref a0, .ref a1, .ref a2, .ref a3, .ref a4, .ref a5, .ref a6, .ref a7, .ref a8, .ref a9, .ref a10, .ref a11, .ref a12, .ref a13, .ref a14, .int po])), (a0, .inl (k0, tl, .inl g0))] [(k0, .int)] t) (va_A [(t0, .inr (5, [.int (nI cn), .int lb, .ref a0, .ref a1, .ref a2, .ref a3, .ref a4, .ref a5, .ref a6, .ref a7, .ref a8, .ref a9, .ref a10, .ref a11, .ref a12, .ref a13, .ref a14, .int po])), (a0, .inl (k0, tl, .inl g0))] sz)) 0 0 (va_A [(t0, .inr (5, [.int (nI cn), .int lb, .ref a0, .ref a1, .ref a2, .ref a3, .ref a4, .ref a5, .ref a6, .ref a7, .ref a8, .ref a9, .ref a10, .ref a11, .ref a12, .ref a13, .ref a14, .int po])), (a0, .inl (k0, tl, .inl g0))] sz) := by
  refine Met.ofW (cc := b_Tr_parentOf) (maxL := 2) (ret := (some .int)) (by decide) rfl ?_
  intro p e s m args below meth c s₁ B hml hv
  obtain ⟨rfl, hsz, hP, hK, hD0⟩ := hv
  have hx := B.exec
  have hb := B.bytes
  have hr := B.returns
  have hts0 := atoms_spec (ws := .code y_Tr_parentOf b_Tr_parentOf 2 (some .int) :: V_Tr) B.pre
  have hts : ∀ w ∈ V_Tr, w.before ([.ref t0, .int p1] : List Value).toArray s = true := fun w h => hts0 w (List.mem_cons_of_mem _ h)
  have hown : s.vm.findClass R_Tr = some m.cls := findClass_of_methodNamed B.named
  have hlocks := B.notSynchronized
  subst hsz
  have hD := hD0.self (sz := s.heap.size)
  generalize hAe : va_A [(t0, .inr (5, [.int (nI cn), .int lb, .ref a0, .ref a1, .ref a2, .ref a3, .ref a4, .ref a5, .ref a6, .ref a7, .ref a8, .ref a9, .ref a10, .ref a11, .ref a12, .ref a13, .ref a14, .int po])), (a0, .inl (k0, tl, .inl g0))] s.heap.size = A at hD ⊢
  have hA : ∀ q : Nat, s.heap.size ≤ q → A q := fun q h => by rw [← hAe]; exact Or.inr h
  have hS : va_S A s.heap s.heap [] := va_S.rf
  have hP : va_P (dC, dI) classes [(t0, .inr (5, [.int (nI cn), .int lb, .ref a0, .ref a1, .ref a2, .ref a3, .ref a4, .ref a5, .ref a6, .ref a7, .ref a8, .ref a9, .ref a10, .ref a11, .ref a12, .ref a13, .ref a14, .int po])), (a0, .inl (k0, tl, .inl g0))] s.heap := hP
  have hK : va_K (dC, dI) classes [(k0, .int)] s := hK
  have hl := lv_entry ([.ref t0, .int p1]) (n := 2) (Nat.le_of_ble_eq_true rfl)
  rw [lg_entry_eq]
  generalize (lg_sl ([.ref t0, .int p1]) ++ List.replicate (2 - (lg_sl ([.ref t0, .int p1])).length) Slot.unset).toArray = ls at hl ⊢
  have hl : lv_has ls 2 [(0, .ref t0), (1, .int p1)] := hl
  refine lv_aload_n hx hb d_Tr_parentOf_0 rfl (lv_at hl 0 rfl) ?_
  refine lv_iload_n hx hb d_Tr_parentOf_1 rfl (lv_at hl 1 rfl) ?_
  have hPc := hP.sub (ws' := [(t0, .inr (5, [.int (nI cn), .int lb, .ref a0, .ref a1, .ref a2, .ref a3, .ref a4, .ref a5, .ref a6, .ref a7, .ref a8, .ref a9, .ref a10, .ref a11, .ref a12, .ref a13, .ref a14, .int po]))]) [0] rfl
  have hDc := hD.sub (ws' := [(t0, .inr (5, [.int (nI cn), .int lb, .ref a0, .ref a1, .ref a2, .ref a3, .ref a4, .ref a5, .ref a6, .ref a7, .ref a8, .ref a9, .ref a10, .ref a11, .ref a12, .ref a13, .ref a14, .int po]))]) [0] (by decide) rfl
  have hKc := hK.sub (tys' := []) [] rfl
  have hFc := va_free (wc := [(t0, .inr (5, [.int (nI cn), .int lb, .ref a0, .ref a1, .ref a2, .ref a3, .ref a4, .ref a5, .ref a6, .ref a7, .ref a8, .ref a9, .ref a10, .ref a11, .ref a12, .ref a13, .ref a14, .int po]))]) hD hS hA [0] rfl
  refine va_calli (va_runV (As := [.int p1]) (rest := []) ⟨hx, hb, hml, hown, hts⟩ (c_Tr_has l dC dI t0 s.heap.size a0 a1 a2 a3 a4 a5 a6 a7 a8 a9 a10 a11 a12 a13 a14 cn tl lb po p1) (cwV 1 hts (gwV good_Tr (k_Tr_38) (k_Tr_39) (k_Tr_40) (k_Tr_0) (wcs (k_Tr_41) (fun _ h => h))) rfl rfl rfl (by decide +kernel) ⟨Nat.le_of_ble_eq_true rfl, Nat.le_of_ble_eq_true rfl⟩) (pv_of hPc hKc hDc (va_recv hKc hPc (ci := 5) (q0 := 0) rfl rfl)) rfl rfl hl.1 rfl (lv_room (Nat.le_of_ble_eq_true rfl)) d_Tr_parentOf_2 ⟨by decide, by decide⟩) hS (fun q _ h => hFc q h) hFc (fun r_1 u t H1 locs ht hvm hw hB hz1 hk1 hS => ?_)
  have er_1 := hw
  obtain ⟨hP1, hK1, hD1⟩ := hB
  rw [ht] at hP1
  have hP1 : va_P (dC, dI) classes [(t0, .inr (5, [.int (nI cn), .int lb, .ref a0, .ref a1, .ref a2, .ref a3, .ref a4, .ref a5, .ref a6, .ref a7, .ref a8, .ref a9, .ref a10, .ref a11, .ref a12, .ref a13, .ref a14, .int po]))] H1 := hP1
  have hD1 : va_D _ [(t0, .inr (5, [.int (nI cn), .int lb, .ref a0, .ref a1, .ref a2, .ref a3, .ref a4, .ref a5, .ref a6, .ref a7, .ref a8, .ref a9, .ref a10, .ref a11, .ref a12, .ref a13, .ref a14, .int po]))] := hD1
  obtain ⟨hP, hD⟩ := va_join (wr := [(a0, .inl (k0, tl, .inl g0))]) (w1 := [(t0, .inr (5, [.int (nI cn), .int lb, .ref a0, .ref a1, .ref a2, .ref a3, .ref a4, .ref a5, .ref a6, .ref a7, .ref a8, .ref a9, .ref a10, .ref a11, .ref a12, .ref a13, .ref a14, .int po]))]) hP hD [0] [1] rfl rfl (by decide) (by decide) hk1 hFc hP1 hD1
  generalize H1 = H at hP hS ⊢
  have hP : va_P (dC, dI) classes [(a0, .inl (k0, tl, .inl g0)), (t0, .inr (5, [.int (nI cn), .int lb, .ref a0, .ref a1, .ref a2, .ref a3, .ref a4, .ref a5, .ref a6, .ref a7, .ref a8, .ref a9, .ref a10, .ref a11, .ref a12, .ref a13, .ref a14, .int po]))] H := hP
  have hD : va_D A [(a0, .inl (k0, tl, .inl g0)), (t0, .inr (5, [.int (nI cn), .int lb, .ref a0, .ref a1, .ref a2, .ref a3, .ref a4, .ref a5, .ref a6, .ref a7, .ref a8, .ref a9, .ref a10, .ref a11, .ref a12, .ref a13, .ref a14, .int po]))] := hD
  refine lv_if_eq (tgt := 17) hx hb d_Tr_parentOf_5 (by decide) (fun c_2 => ?_) (fun c_2 => ?_)
  · refine lv_iconst (v := 0) hx hb d_Tr_parentOf_17 (by decide) ?_
    have hP := hP.sub (ws' := [(t0, .inr (5, [.int (nI cn), .int lb, .ref a0, .ref a1, .ref a2, .ref a3, .ref a4, .ref a5, .ref a6, .ref a7, .ref a8, .ref a9, .ref a10, .ref a11, .ref a12, .ref a13, .ref a14, .int po])), (a0, .inl (k0, tl, .inl g0))]) [1, 0] rfl
    have hD := hD.sub (ws' := [(t0, .inr (5, [.int (nI cn), .int lb, .ref a0, .ref a1, .ref a2, .ref a3, .ref a4, .ref a5, .ref a6, .ref a7, .ref a8, .ref a9, .ref a10, .ref a11, .ref a12, .ref a13, .ref a14, .int po])), (a0, .inl (k0, tl, .inl g0))]) [1, 0] (by decide) rfl
    exact W.iret (v := 0) hx hb hr (fun t ht hW => ⟨⟨0, (), rfl, by rw [tr_par, ← er_1, if_pos c_2], by rw [ht]; exact hP, va_K.moved hW.alike hK, hD⟩, hS.F ht⟩) hS.2.2 d_Tr_parentOf_18
  · refine lv_aload_n hx hb d_Tr_parentOf_8 rfl (lv_at hl 0 rfl) ?_
    refine va_get (D := (dC, dI)) (ci := 5) (v := .ref a0) (C := R_Tr) (T := F_Tr) (N := 18) hx hb hts i_Tr hown hK hP 1 rfl rfl 2 (by decide) (hts _ (k_Tr_7)) (fun _ h9 => h9) rfl d_Tr_parentOf_9 ?_
    refine lv_iload_n hx hb d_Tr_parentOf_12 rfl (lv_at hl 1 rfl) ?_
    refine va_iald hx hb hK hP 0 0 rfl rfl (tr_in (by rw [← er_1]; exact c_2) hcn htl) d_Tr_parentOf_13 ?_
    refine lv_goto (tgt := 18) hx hb d_Tr_parentOf_14 (by decide) ?_
    have hP := hP.sub (ws' := [(t0, .inr (5, [.int (nI cn), .int lb, .ref a0, .ref a1, .ref a2, .ref a3, .ref a4, .ref a5, .ref a6, .ref a7, .ref a8, .ref a9, .ref a10, .ref a11, .ref a12, .ref a13, .ref a14, .int po])), (a0, .inl (k0, tl, .inl g0))]) [1, 0] rfl
    have hD := hD.sub (ws' := [(t0, .inr (5, [.int (nI cn), .int lb, .ref a0, .ref a1, .ref a2, .ref a3, .ref a4, .ref a5, .ref a6, .ref a7, .ref a8, .ref a9, .ref a10, .ref a11, .ref a12, .ref a13, .ref a14, .int po])), (a0, .inl (k0, tl, .inl g0))]) [1, 0] (by decide) rfl
    exact W.iret (v := (g0 p1.toNatClampNeg)) hx hb hr (fun t ht hW => ⟨⟨(g0 p1.toNatClampNeg), (), rfl, by rw [tr_par, ← er_1, if_neg c_2], by rw [ht]; exact hP, va_K.moved hW.alike hK, hD⟩, hS.F ht⟩) hS.2.2 d_Tr_parentOf_18
def tr_ro (cn : Nat) (g3 : Nat → Int32) (p1 : Int32) : Int32 := if (tr_has cn p1) = 0 then (0) else if ((g3 p1.toNatClampNeg) &&& 1) = 0 then (0) else (1)
set_option maxHeartbeats 4000000 in
set_option maxRecDepth 100000 in
theorem c_Tr_isReadOnly (l : Launch) (dC : Nat → ClassId) (dI : Nat → Nat → Nat) (t0 sz : Nat) (a0 a1 a2 a3 a4 a5 a6 a7 a8 a9 a10 a11 a12 a13 a14 : Nat) (cn tl : Nat) (lb po : Int32) (k3 : ClassId) (g3 : Nat → Int32) (hcn : cn ≤ tl) (htl : tl < 2 ^ 31) (p1 : Int32) : Met l y_Tr_isReadOnly (.code y_Tr_isReadOnly b_Tr_isReadOnly 2 (some .boolean) :: V_Tr) ({ frames := 1, cells := 0, slots := 0, locals := 21 }) (va_Pc [.ref t0, .int p1] (fun U => U.heap.size = sz ∧ at_ (dC, dI) (fun _ => True) [(t0, .inr (5, [.int (nI cn), .int lb, .ref a0, .ref a1, .ref a2, .ref a3, .ref a4, .ref a5, .ref a6, .ref a7, .ref a8, .ref a9, .ref a10, .ref a11, .ref a12, .ref a13, .ref a14, .int po])), (a3, .inl (k3, tl, .inl g3))] [(k3, .int)] U)) (va_Qi (fun (r : Int32) (u : Unit) => r = tr_ro cn g3 p1) (fun (u : Unit) t => at_ (dC, dI) (va_A [(t0, .inr (5, [.int (nI cn), .int lb, .ref a0, .ref a1, .ref a2, .ref a3, .ref a4, .ref a5, .ref a6, .ref a7, .ref a8, .ref a9, .ref a10, .ref a11, .ref a12, .ref a13, .ref a14, .int po])), (a3, .inl (k3, tl, .inl g3))] sz) [(t0, .inr (5, [.int (nI cn), .int lb, .ref a0, .ref a1, .ref a2, .ref a3, .ref a4, .ref a5, .ref a6, .ref a7, .ref a8, .ref a9, .ref a10, .ref a11, .ref a12, .ref a13, .ref a14, .int po])), (a3, .inl (k3, tl, .inl g3))] [(k3, .int)] t) (va_A [(t0, .inr (5, [.int (nI cn), .int lb, .ref a0, .ref a1, .ref a2, .ref a3, .ref a4, .ref a5, .ref a6, .ref a7, .ref a8, .ref a9, .ref a10, .ref a11, .ref a12, .ref a13, .ref a14, .int po])), (a3, .inl (k3, tl, .inl g3))] sz)) 0 0 (va_A [(t0, .inr (5, [.int (nI cn), .int lb, .ref a0, .ref a1, .ref a2, .ref a3, .ref a4, .ref a5, .ref a6, .ref a7, .ref a8, .ref a9, .ref a10, .ref a11, .ref a12, .ref a13, .ref a14, .int po])), (a3, .inl (k3, tl, .inl g3))] sz) := by
  refine Met.ofW (cc := b_Tr_isReadOnly) (maxL := 2) (ret := (some .boolean)) (by decide) rfl ?_
  intro p e s m args below meth c s₁ B hml hv
  obtain ⟨rfl, hsz, hP, hK, hD0⟩ := hv
  have hx := B.exec
  have hb := B.bytes
  have hr := B.returns
  have hts0 := atoms_spec (ws := .code y_Tr_isReadOnly b_Tr_isReadOnly 2 (some .boolean) :: V_Tr) B.pre
  have hts : ∀ w ∈ V_Tr, w.before ([.ref t0, .int p1] : List Value).toArray s = true := fun w h => hts0 w (List.mem_cons_of_mem _ h)
  have hown : s.vm.findClass R_Tr = some m.cls := findClass_of_methodNamed B.named
  have hlocks := B.notSynchronized
  subst hsz
  have hD := hD0.self (sz := s.heap.size)
  generalize hAe : va_A [(t0, .inr (5, [.int (nI cn), .int lb, .ref a0, .ref a1, .ref a2, .ref a3, .ref a4, .ref a5, .ref a6, .ref a7, .ref a8, .ref a9, .ref a10, .ref a11, .ref a12, .ref a13, .ref a14, .int po])), (a3, .inl (k3, tl, .inl g3))] s.heap.size = A at hD ⊢
  have hA : ∀ q : Nat, s.heap.size ≤ q → A q := fun q h => by rw [← hAe]; exact Or.inr h
  have hS : va_S A s.heap s.heap [] := va_S.rf
  have hP : va_P (dC, dI) classes [(t0, .inr (5, [.int (nI cn), .int lb, .ref a0, .ref a1, .ref a2, .ref a3, .ref a4, .ref a5, .ref a6, .ref a7, .ref a8, .ref a9, .ref a10, .ref a11, .ref a12, .ref a13, .ref a14, .int po])), (a3, .inl (k3, tl, .inl g3))] s.heap := hP
  have hK : va_K (dC, dI) classes [(k3, .int)] s := hK
  have hl := lv_entry ([.ref t0, .int p1]) (n := 2) (Nat.le_of_ble_eq_true rfl)
  rw [lg_entry_eq]
  generalize (lg_sl ([.ref t0, .int p1]) ++ List.replicate (2 - (lg_sl ([.ref t0, .int p1])).length) Slot.unset).toArray = ls at hl ⊢
  have hl : lv_has ls 2 [(0, .ref t0), (1, .int p1)] := hl
  refine lv_aload_n hx hb d_Tr_isReadOnly_0 rfl (lv_at hl 0 rfl) ?_
  refine lv_iload_n hx hb d_Tr_isReadOnly_1 rfl (lv_at hl 1 rfl) ?_
  have hPc := hP.sub (ws' := [(t0, .inr (5, [.int (nI cn), .int lb, .ref a0, .ref a1, .ref a2, .ref a3, .ref a4, .ref a5, .ref a6, .ref a7, .ref a8, .ref a9, .ref a10, .ref a11, .ref a12, .ref a13, .ref a14, .int po]))]) [0] rfl
  have hDc := hD.sub (ws' := [(t0, .inr (5, [.int (nI cn), .int lb, .ref a0, .ref a1, .ref a2, .ref a3, .ref a4, .ref a5, .ref a6, .ref a7, .ref a8, .ref a9, .ref a10, .ref a11, .ref a12, .ref a13, .ref a14, .int po]))]) [0] (by decide) rfl
  have hKc := hK.sub (tys' := []) [] rfl
  have hFc := va_free (wc := [(t0, .inr (5, [.int (nI cn), .int lb, .ref a0, .ref a1, .ref a2, .ref a3, .ref a4, .ref a5, .ref a6, .ref a7, .ref a8, .ref a9, .ref a10, .ref a11, .ref a12, .ref a13, .ref a14, .int po]))]) hD hS hA [0] rfl
  refine va_calli (va_runV (As := [.int p1]) (rest := []) ⟨hx, hb, hml, hown, hts⟩ (c_Tr_has l dC dI t0 s.heap.size a0 a1 a2 a3 a4 a5 a6 a7 a8 a9 a10 a11 a12 a13 a14 cn tl lb po p1) (cwV 1 hts (gwV good_Tr (k_Tr_38) (k_Tr_39) (k_Tr_40) (k_Tr_0) (wcs (k_Tr_41) (fun _ h => h))) rfl rfl rfl (by decide +kernel) ⟨Nat.le_of_ble_eq_true rfl, Nat.le_of_ble_eq_true rfl⟩) (pv_of hPc hKc hDc (va_recv hKc hPc (ci := 5) (q0 := 0) rfl rfl)) rfl rfl hl.1 rfl (lv_room (Nat.le_of_ble_eq_true rfl)) d_Tr_isReadOnly_2 ⟨by decide, by decide⟩) hS (fun q _ h => hFc q h) hFc (fun r_1 u t H1 locs ht hvm hw hB hz1 hk1 hS => ?_)
  have er_1 := hw
  obtain ⟨hP1, hK1, hD1⟩ := hB
  rw [ht] at hP1
  have hP1 : va_P (dC, dI) classes [(t0, .inr (5, [.int (nI cn), .int lb, .ref a0, .ref a1, .ref a2, .ref a3, .ref a4, .ref a5, .ref a6, .ref a7, .ref a8, .ref a9, .ref a10, .ref a11, .ref a12, .ref a13, .ref a14, .int po]))] H1 := hP1
  have hD1 : va_D _ [(t0, .inr (5, [.int (nI cn), .int lb, .ref a0, .ref a1, .ref a2, .ref a3, .ref a4, .ref a5, .ref a6, .ref a7, .ref a8, .ref a9, .ref a10, .ref a11, .ref a12, .ref a13, .ref a14, .int po]))] := hD1
  obtain ⟨hP, hD⟩ := va_join (wr := [(a3, .inl (k3, tl, .inl g3))]) (w1 := [(t0, .inr (5, [.int (nI cn), .int lb, .ref a0, .ref a1, .ref a2, .ref a3, .ref a4, .ref a5, .ref a6, .ref a7, .ref a8, .ref a9, .ref a10, .ref a11, .ref a12, .ref a13, .ref a14, .int po]))]) hP hD [0] [1] rfl rfl (by decide) (by decide) hk1 hFc hP1 hD1
  generalize H1 = H at hP hS ⊢
  have hP : va_P (dC, dI) classes [(a3, .inl (k3, tl, .inl g3)), (t0, .inr (5, [.int (nI cn), .int lb, .ref a0, .ref a1, .ref a2, .ref a3, .ref a4, .ref a5, .ref a6, .ref a7, .ref a8, .ref a9, .ref a10, .ref a11, .ref a12, .ref a13, .ref a14, .int po]))] H := hP
  have hD : va_D A [(a3, .inl (k3, tl, .inl g3)), (t0, .inr (5, [.int (nI cn), .int lb, .ref a0, .ref a1, .ref a2, .ref a3, .ref a4, .ref a5, .ref a6, .ref a7, .ref a8, .ref a9, .ref a10, .ref a11, .ref a12, .ref a13, .ref a14, .int po]))] := hD
  refine lv_if_eq (tgt := 23) hx hb d_Tr_isReadOnly_5 (by decide) (fun c_2 => ?_) (fun c_2 => ?_)
  · refine lv_iconst (v := 0) hx hb d_Tr_isReadOnly_23 (by decide) ?_
    have hP := hP.sub (ws' := [(t0, .inr (5, [.int (nI cn), .int lb, .ref a0, .ref a1, .ref a2, .ref a3, .ref a4, .ref a5, .ref a6, .ref a7, .ref a8, .ref a9, .ref a10, .ref a11, .ref a12, .ref a13, .ref a14, .int po])), (a3, .inl (k3, tl, .inl g3))]) [1, 0] rfl
    have hD := hD.sub (ws' := [(t0, .inr (5, [.int (nI cn), .int lb, .ref a0, .ref a1, .ref a2, .ref a3, .ref a4, .ref a5, .ref a6, .ref a7, .ref a8, .ref a9, .ref a10, .ref a11, .ref a12, .ref a13, .ref a14, .int po])), (a3, .inl (k3, tl, .inl g3))]) [1, 0] (by decide) rfl
    exact W.zret (v := 0) hx hb hr rfl (fun t ht hW => ⟨⟨0, (), rfl, by rw [tr_ro, ← er_1, if_pos c_2], by rw [ht]; exact hP, va_K.moved hW.alike hK, hD⟩, hS.F ht⟩) hS.2.2 d_Tr_isReadOnly_24
  · refine lv_aload_n hx hb d_Tr_isReadOnly_8 rfl (lv_at hl 0 rfl) ?_
    refine va_get (D := (dC, dI)) (ci := 5) (v := .ref a3) (C := R_Tr) (T := F_Tr) (N := 18) hx hb hts i_Tr hown hK hP 1 rfl rfl 5 (by decide) (hts _ (k_Tr_10)) (fun _ h9 => h9) rfl d_Tr_isReadOnly_9 ?_
    refine lv_iload_n hx hb d_Tr_isReadOnly_12 rfl (lv_at hl 1 rfl) ?_
    refine va_iald hx hb hK hP 0 0 rfl rfl (tr_in (by rw [← er_1]; exact c_2) hcn htl) d_Tr_isReadOnly_13 ?_
    refine lv_iconst (v := 1) hx hb d_Tr_isReadOnly_14 (by decide) ?_
    refine lv_iand hx hb d_Tr_isReadOnly_15 ?_
    refine lv_if_eq (tgt := 23) hx hb d_Tr_isReadOnly_16 (by decide) (fun c_3 => ?_) (fun c_3 => ?_)
    · refine lv_iconst (v := 0) hx hb d_Tr_isReadOnly_23 (by decide) ?_
      have hP := hP.sub (ws' := [(t0, .inr (5, [.int (nI cn), .int lb, .ref a0, .ref a1, .ref a2, .ref a3, .ref a4, .ref a5, .ref a6, .ref a7, .ref a8, .ref a9, .ref a10, .ref a11, .ref a12, .ref a13, .ref a14, .int po])), (a3, .inl (k3, tl, .inl g3))]) [1, 0] rfl
      have hD := hD.sub (ws' := [(t0, .inr (5, [.int (nI cn), .int lb, .ref a0, .ref a1, .ref a2, .ref a3, .ref a4, .ref a5, .ref a6, .ref a7, .ref a8, .ref a9, .ref a10, .ref a11, .ref a12, .ref a13, .ref a14, .int po])), (a3, .inl (k3, tl, .inl g3))]) [1, 0] (by decide) rfl
      exact W.zret (v := 0) hx hb hr rfl (fun t ht hW => ⟨⟨0, (), rfl, by rw [tr_ro, ← er_1, if_neg c_2, if_pos c_3], by rw [ht]; exact hP, va_K.moved hW.alike hK, hD⟩, hS.F ht⟩) hS.2.2 d_Tr_isReadOnly_24
    · refine lv_iconst (v := 1) hx hb d_Tr_isReadOnly_19 (by decide) ?_
      refine lv_goto (tgt := 24) hx hb d_Tr_isReadOnly_20 (by decide) ?_
      have hP := hP.sub (ws' := [(t0, .inr (5, [.int (nI cn), .int lb, .ref a0, .ref a1, .ref a2, .ref a3, .ref a4, .ref a5, .ref a6, .ref a7, .ref a8, .ref a9, .ref a10, .ref a11, .ref a12, .ref a13, .ref a14, .int po])), (a3, .inl (k3, tl, .inl g3))]) [1, 0] rfl
      have hD := hD.sub (ws' := [(t0, .inr (5, [.int (nI cn), .int lb, .ref a0, .ref a1, .ref a2, .ref a3, .ref a4, .ref a5, .ref a6, .ref a7, .ref a8, .ref a9, .ref a10, .ref a11, .ref a12, .ref a13, .ref a14, .int po])), (a3, .inl (k3, tl, .inl g3))]) [1, 0] (by decide) rfl
      exact W.zret (v := 1) hx hb hr rfl (fun t ht hW => ⟨⟨1, (), rfl, by rw [tr_ro, ← er_1, if_neg c_2, if_neg c_3], by rw [ht]; exact hP, va_K.moved hW.alike hK, hD⟩, hS.F ht⟩) hS.2.2 d_Tr_isReadOnly_24
def tr_parts (cn : Nat) (g6 : Nat → Int32) (p1 : Int32) : Int32 := if (tr_has cn p1) = 0 then (0) else (g6 p1.toNatClampNeg)
set_option maxHeartbeats 4000000 in
set_option maxRecDepth 100000 in
theorem c_Tr_partsOf (l : Launch) (dC : Nat → ClassId) (dI : Nat → Nat → Nat) (t0 sz : Nat) (a0 a1 a2 a3 a4 a5 a6 a7 a8 a9 a10 a11 a12 a13 a14 : Nat) (cn tl : Nat) (lb po : Int32) (k6 : ClassId) (g6 : Nat → Int32) (hcn : cn ≤ tl) (htl : tl < 2 ^ 31) (p1 : Int32) : Met l y_Tr_partsOf (.code y_Tr_partsOf b_Tr_partsOf 2 (some .int) :: V_Tr) ({ frames := 1, cells := 0, slots := 0, locals := 21 }) (va_Pc [.ref t0, .int p1] (fun U => U.heap.size = sz ∧ at_ (dC, dI) (fun _ => True) [(t0, .inr (5, [.int (nI cn), .int lb, .ref a0, .ref a1, .ref a2, .ref a3, .ref a4, .ref a5, .ref a6, .ref a7, .ref a8, .ref a9, .ref a10, .ref a11, .ref a12, .ref a13, .ref a14, .int po])), (a6, .inl (k6, tl, .inl g6))] [(k6, .int)] U)) (va_Qi (fun (r : Int32) (u : Unit) => r = tr_parts cn g6 p1) (fun (u : Unit) t => at_ (dC, dI) (va_A [(t0, .inr (5, [.int (nI cn), .int lb, .ref a0, .ref a1, .ref a2, .ref a3, .ref a4, .ref a5, .ref a6, .ref a7, .ref a8, .ref a9, .ref a10, .ref a11, .ref a12, .ref a13, .ref a14, .int po])), (a6, .inl (k6, tl, .inl g6))] sz) [(t0, .inr (5, [.int (nI cn), .int lb, .ref a0, .ref a1, .ref a2, .ref a3, .ref a4, .ref a5, .ref a6, .ref a7, .ref a8, .ref a9, .ref a10, .ref a11, .ref a12, .ref a13, .ref a14, .int po])), (a6, .inl (k6, tl, .inl g6))] [(k6, .int)] t) (va_A [(t0, .inr (5, [.int (nI cn), .int lb, .ref a0, .ref a1, .ref a2, .ref a3, .ref a4, .ref a5, .ref a6, .ref a7, .ref a8, .ref a9, .ref a10, .ref a11, .ref a12, .ref a13, .ref a14, .int po])), (a6, .inl (k6, tl, .inl g6))] sz)) 0 0 (va_A [(t0, .inr (5, [.int (nI cn), .int lb, .ref a0, .ref a1, .ref a2, .ref a3, .ref a4, .ref a5, .ref a6, .ref a7, .ref a8, .ref a9, .ref a10, .ref a11, .ref a12, .ref a13, .ref a14, .int po])), (a6, .inl (k6, tl, .inl g6))] sz) := by
  refine Met.ofW (cc := b_Tr_partsOf) (maxL := 2) (ret := (some .int)) (by decide) rfl ?_
  intro p e s m args below meth c s₁ B hml hv
  obtain ⟨rfl, hsz, hP, hK, hD0⟩ := hv
  have hx := B.exec
  have hb := B.bytes
  have hr := B.returns
  have hts0 := atoms_spec (ws := .code y_Tr_partsOf b_Tr_partsOf 2 (some .int) :: V_Tr) B.pre
  have hts : ∀ w ∈ V_Tr, w.before ([.ref t0, .int p1] : List Value).toArray s = true := fun w h => hts0 w (List.mem_cons_of_mem _ h)
  have hown : s.vm.findClass R_Tr = some m.cls := findClass_of_methodNamed B.named
  have hlocks := B.notSynchronized
  subst hsz
  have hD := hD0.self (sz := s.heap.size)
  generalize hAe : va_A [(t0, .inr (5, [.int (nI cn), .int lb, .ref a0, .ref a1, .ref a2, .ref a3, .ref a4, .ref a5, .ref a6, .ref a7, .ref a8, .ref a9, .ref a10, .ref a11, .ref a12, .ref a13, .ref a14, .int po])), (a6, .inl (k6, tl, .inl g6))] s.heap.size = A at hD ⊢
  have hA : ∀ q : Nat, s.heap.size ≤ q → A q := fun q h => by rw [← hAe]; exact Or.inr h
  have hS : va_S A s.heap s.heap [] := va_S.rf
  have hP : va_P (dC, dI) classes [(t0, .inr (5, [.int (nI cn), .int lb, .ref a0, .ref a1, .ref a2, .ref a3, .ref a4, .ref a5, .ref a6, .ref a7, .ref a8, .ref a9, .ref a10, .ref a11, .ref a12, .ref a13, .ref a14, .int po])), (a6, .inl (k6, tl, .inl g6))] s.heap := hP
  have hK : va_K (dC, dI) classes [(k6, .int)] s := hK
  have hl := lv_entry ([.ref t0, .int p1]) (n := 2) (Nat.le_of_ble_eq_true rfl)
  rw [lg_entry_eq]
  generalize (lg_sl ([.ref t0, .int p1]) ++ List.replicate (2 - (lg_sl ([.ref t0, .int p1])).length) Slot.unset).toArray = ls at hl ⊢
  have hl : lv_has ls 2 [(0, .ref t0), (1, .int p1)] := hl
  refine lv_aload_n hx hb d_Tr_partsOf_0 rfl (lv_at hl 0 rfl) ?_
  refine lv_iload_n hx hb d_Tr_partsOf_1 rfl (lv_at hl 1 rfl) ?_
  have hPc := hP.sub (ws' := [(t0, .inr (5, [.int (nI cn), .int lb, .ref a0, .ref a1, .ref a2, .ref a3, .ref a4, .ref a5, .ref a6, .ref a7, .ref a8, .ref a9, .ref a10, .ref a11, .ref a12, .ref a13, .ref a14, .int po]))]) [0] rfl
  have hDc := hD.sub (ws' := [(t0, .inr (5, [.int (nI cn), .int lb, .ref a0, .ref a1, .ref a2, .ref a3, .ref a4, .ref a5, .ref a6, .ref a7, .ref a8, .ref a9, .ref a10, .ref a11, .ref a12, .ref a13, .ref a14, .int po]))]) [0] (by decide) rfl
  have hKc := hK.sub (tys' := []) [] rfl
  have hFc := va_free (wc := [(t0, .inr (5, [.int (nI cn), .int lb, .ref a0, .ref a1, .ref a2, .ref a3, .ref a4, .ref a5, .ref a6, .ref a7, .ref a8, .ref a9, .ref a10, .ref a11, .ref a12, .ref a13, .ref a14, .int po]))]) hD hS hA [0] rfl
  refine va_calli (va_runV (As := [.int p1]) (rest := []) ⟨hx, hb, hml, hown, hts⟩ (c_Tr_has l dC dI t0 s.heap.size a0 a1 a2 a3 a4 a5 a6 a7 a8 a9 a10 a11 a12 a13 a14 cn tl lb po p1) (cwV 1 hts (gwV good_Tr (k_Tr_38) (k_Tr_39) (k_Tr_40) (k_Tr_0) (wcs (k_Tr_41) (fun _ h => h))) rfl rfl rfl (by decide +kernel) ⟨Nat.le_of_ble_eq_true rfl, Nat.le_of_ble_eq_true rfl⟩) (pv_of hPc hKc hDc (va_recv hKc hPc (ci := 5) (q0 := 0) rfl rfl)) rfl rfl hl.1 rfl (lv_room (Nat.le_of_ble_eq_true rfl)) d_Tr_partsOf_2 ⟨by decide, by decide⟩) hS (fun q _ h => hFc q h) hFc (fun r_1 u t H1 locs ht hvm hw hB hz1 hk1 hS => ?_)
  have er_1 := hw
  obtain ⟨hP1, hK1, hD1⟩ := hB
  rw [ht] at hP1
  have hP1 : va_P (dC, dI) classes [(t0, .inr (5, [.int (nI cn), .int lb, .ref a0, .ref a1, .ref a2, .ref a3, .ref a4, .ref a5, .ref a6, .ref a7, .ref a8, .ref a9, .ref a10, .ref a11, .ref a12, .ref a13, .ref a14, .int po]))] H1 := hP1
  have hD1 : va_D _ [(t0, .inr (5, [.int (nI cn), .int lb, .ref a0, .ref a1, .ref a2, .ref a3, .ref a4, .ref a5, .ref a6, .ref a7, .ref a8, .ref a9, .ref a10, .ref a11, .ref a12, .ref a13, .ref a14, .int po]))] := hD1
  obtain ⟨hP, hD⟩ := va_join (wr := [(a6, .inl (k6, tl, .inl g6))]) (w1 := [(t0, .inr (5, [.int (nI cn), .int lb, .ref a0, .ref a1, .ref a2, .ref a3, .ref a4, .ref a5, .ref a6, .ref a7, .ref a8, .ref a9, .ref a10, .ref a11, .ref a12, .ref a13, .ref a14, .int po]))]) hP hD [0] [1] rfl rfl (by decide) (by decide) hk1 hFc hP1 hD1
  generalize H1 = H at hP hS ⊢
  have hP : va_P (dC, dI) classes [(a6, .inl (k6, tl, .inl g6)), (t0, .inr (5, [.int (nI cn), .int lb, .ref a0, .ref a1, .ref a2, .ref a3, .ref a4, .ref a5, .ref a6, .ref a7, .ref a8, .ref a9, .ref a10, .ref a11, .ref a12, .ref a13, .ref a14, .int po]))] H := hP
  have hD : va_D A [(a6, .inl (k6, tl, .inl g6)), (t0, .inr (5, [.int (nI cn), .int lb, .ref a0, .ref a1, .ref a2, .ref a3, .ref a4, .ref a5, .ref a6, .ref a7, .ref a8, .ref a9, .ref a10, .ref a11, .ref a12, .ref a13, .ref a14, .int po]))] := hD
  refine lv_if_eq (tgt := 17) hx hb d_Tr_partsOf_5 (by decide) (fun c_2 => ?_) (fun c_2 => ?_)
  · refine lv_iconst (v := 0) hx hb d_Tr_partsOf_17 (by decide) ?_
    have hP := hP.sub (ws' := [(t0, .inr (5, [.int (nI cn), .int lb, .ref a0, .ref a1, .ref a2, .ref a3, .ref a4, .ref a5, .ref a6, .ref a7, .ref a8, .ref a9, .ref a10, .ref a11, .ref a12, .ref a13, .ref a14, .int po])), (a6, .inl (k6, tl, .inl g6))]) [1, 0] rfl
    have hD := hD.sub (ws' := [(t0, .inr (5, [.int (nI cn), .int lb, .ref a0, .ref a1, .ref a2, .ref a3, .ref a4, .ref a5, .ref a6, .ref a7, .ref a8, .ref a9, .ref a10, .ref a11, .ref a12, .ref a13, .ref a14, .int po])), (a6, .inl (k6, tl, .inl g6))]) [1, 0] (by decide) rfl
    exact W.iret (v := 0) hx hb hr (fun t ht hW => ⟨⟨0, (), rfl, by rw [tr_parts, ← er_1, if_pos c_2], by rw [ht]; exact hP, va_K.moved hW.alike hK, hD⟩, hS.F ht⟩) hS.2.2 d_Tr_partsOf_18
  · refine lv_aload_n hx hb d_Tr_partsOf_8 rfl (lv_at hl 0 rfl) ?_
    refine va_get (D := (dC, dI)) (ci := 5) (v := .ref a6) (C := R_Tr) (T := F_Tr) (N := 18) hx hb hts i_Tr hown hK hP 1 rfl rfl 8 (by decide) (hts _ (k_Tr_13)) (fun _ h9 => h9) rfl d_Tr_partsOf_9 ?_
    refine lv_iload_n hx hb d_Tr_partsOf_12 rfl (lv_at hl 1 rfl) ?_
    refine va_iald hx hb hK hP 0 0 rfl rfl (tr_in (by rw [← er_1]; exact c_2) hcn htl) d_Tr_partsOf_13 ?_
    refine lv_goto (tgt := 18) hx hb d_Tr_partsOf_14 (by decide) ?_
    have hP := hP.sub (ws' := [(t0, .inr (5, [.int (nI cn), .int lb, .ref a0, .ref a1, .ref a2, .ref a3, .ref a4, .ref a5, .ref a6, .ref a7, .ref a8, .ref a9, .ref a10, .ref a11, .ref a12, .ref a13, .ref a14, .int po])), (a6, .inl (k6, tl, .inl g6))]) [1, 0] rfl
    have hD := hD.sub (ws' := [(t0, .inr (5, [.int (nI cn), .int lb, .ref a0, .ref a1, .ref a2, .ref a3, .ref a4, .ref a5, .ref a6, .ref a7, .ref a8, .ref a9, .ref a10, .ref a11, .ref a12, .ref a13, .ref a14, .int po])), (a6, .inl (k6, tl, .inl g6))]) [1, 0] (by decide) rfl
    exact W.iret (v := (g6 p1.toNatClampNeg)) hx hb hr (fun t ht hW => ⟨⟨(g6 p1.toNatClampNeg), (), rfl, by rw [tr_parts, ← er_1, if_neg c_2], by rw [ht]; exact hP, va_K.moved hW.alike hK, hD⟩, hS.F ht⟩) hS.2.2 d_Tr_partsOf_18
def tr_built (cn : Nat) (g12 : Nat → Int32) (p1 : Int32) : Int32 := if (tr_has cn p1) = 0 then (0) else (g12 p1.toNatClampNeg)
set_option maxHeartbeats 4000000 in
set_option maxRecDepth 100000 in
theorem c_Tr_builtOf (l : Launch) (dC : Nat → ClassId) (dI : Nat → Nat → Nat) (t0 sz : Nat) (a0 a1 a2 a3 a4 a5 a6 a7 a8 a9 a10 a11 a12 a13 a14 : Nat) (cn tl : Nat) (lb po : Int32) (k12 : ClassId) (g12 : Nat → Int32) (hcn : cn ≤ tl) (htl : tl < 2 ^ 31) (p1 : Int32) : Met l y_Tr_builtOf (.code y_Tr_builtOf b_Tr_builtOf 2 (some .int) :: V_Tr) ({ frames := 1, cells := 0, slots := 0, locals := 21 }) (va_Pc [.ref t0, .int p1] (fun U => U.heap.size = sz ∧ at_ (dC, dI) (fun _ => True) [(t0, .inr (5, [.int (nI cn), .int lb, .ref a0, .ref a1, .ref a2, .ref a3, .ref a4, .ref a5, .ref a6, .ref a7, .ref a8, .ref a9, .ref a10, .ref a11, .ref a12, .ref a13, .ref a14, .int po])), (a12, .inl (k12, tl, .inl g12))] [(k12, .int)] U)) (va_Qi (fun (r : Int32) (u : Unit) => r = tr_built cn g12 p1) (fun (u : Unit) t => at_ (dC, dI) (va_A [(t0, .inr (5, [.int (nI cn), .int lb, .ref a0, .ref a1, .ref a2, .ref a3, .ref a4, .ref a5, .ref a6, .ref a7, .ref a8, .ref a9, .ref a10, .ref a11, .ref a12, .ref a13, .ref a14, .int po])), (a12, .inl (k12, tl, .inl g12))] sz) [(t0, .inr (5, [.int (nI cn), .int lb, .ref a0, .ref a1, .ref a2, .ref a3, .ref a4, .ref a5, .ref a6, .ref a7, .ref a8, .ref a9, .ref a10, .ref a11, .ref a12, .ref a13, .ref a14, .int po])), (a12, .inl (k12, tl, .inl g12))] [(k12, .int)] t) (va_A [(t0, .inr (5, [.int (nI cn), .int lb, .ref a0, .ref a1, .ref a2, .ref a3, .ref a4, .ref a5, .ref a6, .ref a7, .ref a8, .ref a9, .ref a10, .ref a11, .ref a12, .ref a13, .ref a14, .int po])), (a12, .inl (k12, tl, .inl g12))] sz)) 0 0 (va_A [(t0, .inr (5, [.int (nI cn), .int lb, .ref a0, .ref a1, .ref a2, .ref a3, .ref a4, .ref a5, .ref a6, .ref a7, .ref a8, .ref a9, .ref a10, .ref a11, .ref a12, .ref a13, .ref a14, .int po])), (a12, .inl (k12, tl, .inl g12))] sz) := by
  refine Met.ofW (cc := b_Tr_builtOf) (maxL := 2) (ret := (some .int)) (by decide) rfl ?_
  intro p e s m args below meth c s₁ B hml hv
  obtain ⟨rfl, hsz, hP, hK, hD0⟩ := hv
  have hx := B.exec
  have hb := B.bytes
  have hr := B.returns
  have hts0 := atoms_spec (ws := .code y_Tr_builtOf b_Tr_builtOf 2 (some .int) :: V_Tr) B.pre
  have hts : ∀ w ∈ V_Tr, w.before ([.ref t0, .int p1] : List Value).toArray s = true := fun w h => hts0 w (List.mem_cons_of_mem _ h)
  have hown : s.vm.findClass R_Tr = some m.cls := findClass_of_methodNamed B.named
  have hlocks := B.notSynchronized
  subst hsz
  have hD := hD0.self (sz := s.heap.size)
  generalize hAe : va_A [(t0, .inr (5, [.int (nI cn), .int lb, .ref a0, .ref a1, .ref a2, .ref a3, .ref a4, .ref a5, .ref a6, .ref a7, .ref a8, .ref a9, .ref a10, .ref a11, .ref a12, .ref a13, .ref a14, .int po])), (a12, .inl (k12, tl, .inl g12))] s.heap.size = A at hD ⊢
  have hA : ∀ q : Nat, s.heap.size ≤ q → A q := fun q h => by rw [← hAe]; exact Or.inr h
  have hS : va_S A s.heap s.heap [] := va_S.rf
  have hP : va_P (dC, dI) classes [(t0, .inr (5, [.int (nI cn), .int lb, .ref a0, .ref a1, .ref a2, .ref a3, .ref a4, .ref a5, .ref a6, .ref a7, .ref a8, .ref a9, .ref a10, .ref a11, .ref a12, .ref a13, .ref a14, .int po])), (a12, .inl (k12, tl, .inl g12))] s.heap := hP
  have hK : va_K (dC, dI) classes [(k12, .int)] s := hK
  have hl := lv_entry ([.ref t0, .int p1]) (n := 2) (Nat.le_of_ble_eq_true rfl)
  rw [lg_entry_eq]
  generalize (lg_sl ([.ref t0, .int p1]) ++ List.replicate (2 - (lg_sl ([.ref t0, .int p1])).length) Slot.unset).toArray = ls at hl ⊢
  have hl : lv_has ls 2 [(0, .ref t0), (1, .int p1)] := hl
  refine lv_aload_n hx hb d_Tr_builtOf_0 rfl (lv_at hl 0 rfl) ?_
  refine lv_iload_n hx hb d_Tr_builtOf_1 rfl (lv_at hl 1 rfl) ?_
  have hPc := hP.sub (ws' := [(t0, .inr (5, [.int (nI cn), .int lb, .ref a0, .ref a1, .ref a2, .ref a3, .ref a4, .ref a5, .ref a6, .ref a7, .ref a8, .ref a9, .ref a10, .ref a11, .ref a12, .ref a13, .ref a14, .int po]))]) [0] rfl
  have hDc := hD.sub (ws' := [(t0, .inr (5, [.int (nI cn), .int lb, .ref a0, .ref a1, .ref a2, .ref a3, .ref a4, .ref a5, .ref a6, .ref a7, .ref a8, .ref a9, .ref a10, .ref a11, .ref a12, .ref a13, .ref a14, .int po]))]) [0] (by decide) rfl
  have hKc := hK.sub (tys' := []) [] rfl
  have hFc := va_free (wc := [(t0, .inr (5, [.int (nI cn), .int lb, .ref a0, .ref a1, .ref a2, .ref a3, .ref a4, .ref a5, .ref a6, .ref a7, .ref a8, .ref a9, .ref a10, .ref a11, .ref a12, .ref a13, .ref a14, .int po]))]) hD hS hA [0] rfl
  refine va_calli (va_runV (As := [.int p1]) (rest := []) ⟨hx, hb, hml, hown, hts⟩ (c_Tr_has l dC dI t0 s.heap.size a0 a1 a2 a3 a4 a5 a6 a7 a8 a9 a10 a11 a12 a13 a14 cn tl lb po p1) (cwV 1 hts (gwV good_Tr (k_Tr_38) (k_Tr_39) (k_Tr_40) (k_Tr_0) (wcs (k_Tr_41) (fun _ h => h))) rfl rfl rfl (by decide +kernel) ⟨Nat.le_of_ble_eq_true rfl, Nat.le_of_ble_eq_true rfl⟩) (pv_of hPc hKc hDc (va_recv hKc hPc (ci := 5) (q0 := 0) rfl rfl)) rfl rfl hl.1 rfl (lv_room (Nat.le_of_ble_eq_true rfl)) d_Tr_builtOf_2 ⟨by decide, by decide⟩) hS (fun q _ h => hFc q h) hFc (fun r_1 u t H1 locs ht hvm hw hB hz1 hk1 hS => ?_)
  have er_1 := hw
  obtain ⟨hP1, hK1, hD1⟩ := hB
  rw [ht] at hP1
  have hP1 : va_P (dC, dI) classes [(t0, .inr (5, [.int (nI cn), .int lb, .ref a0, .ref a1, .ref a2, .ref a3, .ref a4, .ref a5, .ref a6, .ref a7, .ref a8, .ref a9, .ref a10, .ref a11, .ref a12, .ref a13, .ref a14, .int po]))] H1 := hP1
  have hD1 : va_D _ [(t0, .inr (5, [.int (nI cn), .int lb, .ref a0, .ref a1, .ref a2, .ref a3, .ref a4, .ref a5, .ref a6, .ref a7, .ref a8, .ref a9, .ref a10, .ref a11, .ref a12, .ref a13, .ref a14, .int po]))] := hD1
  obtain ⟨hP, hD⟩ := va_join (wr := [(a12, .inl (k12, tl, .inl g12))]) (w1 := [(t0, .inr (5, [.int (nI cn), .int lb, .ref a0, .ref a1, .ref a2, .ref a3, .ref a4, .ref a5, .ref a6, .ref a7, .ref a8, .ref a9, .ref a10, .ref a11, .ref a12, .ref a13, .ref a14, .int po]))]) hP hD [0] [1] rfl rfl (by decide) (by decide) hk1 hFc hP1 hD1
  generalize H1 = H at hP hS ⊢
  have hP : va_P (dC, dI) classes [(a12, .inl (k12, tl, .inl g12)), (t0, .inr (5, [.int (nI cn), .int lb, .ref a0, .ref a1, .ref a2, .ref a3, .ref a4, .ref a5, .ref a6, .ref a7, .ref a8, .ref a9, .ref a10, .ref a11, .ref a12, .ref a13, .ref a14, .int po]))] H := hP
  have hD : va_D A [(a12, .inl (k12, tl, .inl g12)), (t0, .inr (5, [.int (nI cn), .int lb, .ref a0, .ref a1, .ref a2, .ref a3, .ref a4, .ref a5, .ref a6, .ref a7, .ref a8, .ref a9, .ref a10, .ref a11, .ref a12, .ref a13, .ref a14, .int po]))] := hD
  refine lv_if_eq (tgt := 17) hx hb d_Tr_builtOf_5 (by decide) (fun c_2 => ?_) (fun c_2 => ?_)
  · refine lv_iconst (v := 0) hx hb d_Tr_builtOf_17 (by decide) ?_
    have hP := hP.sub (ws' := [(t0, .inr (5, [.int (nI cn), .int lb, .ref a0, .ref a1, .ref a2, .ref a3, .ref a4, .ref a5, .ref a6, .ref a7, .ref a8, .ref a9, .ref a10, .ref a11, .ref a12, .ref a13, .ref a14, .int po])), (a12, .inl (k12, tl, .inl g12))]) [1, 0] rfl
    have hD := hD.sub (ws' := [(t0, .inr (5, [.int (nI cn), .int lb, .ref a0, .ref a1, .ref a2, .ref a3, .ref a4, .ref a5, .ref a6, .ref a7, .ref a8, .ref a9, .ref a10, .ref a11, .ref a12, .ref a13, .ref a14, .int po])), (a12, .inl (k12, tl, .inl g12))]) [1, 0] (by decide) rfl
    exact W.iret (v := 0) hx hb hr (fun t ht hW => ⟨⟨0, (), rfl, by rw [tr_built, ← er_1, if_pos c_2], by rw [ht]; exact hP, va_K.moved hW.alike hK, hD⟩, hS.F ht⟩) hS.2.2 d_Tr_builtOf_18
  · refine lv_aload_n hx hb d_Tr_builtOf_8 rfl (lv_at hl 0 rfl) ?_
    refine va_get (D := (dC, dI)) (ci := 5) (v := .ref a12) (C := R_Tr) (T := F_Tr) (N := 18) hx hb hts i_Tr hown hK hP 1 rfl rfl 14 (by decide) (hts _ (k_Tr_19)) (fun _ h9 => h9) rfl d_Tr_builtOf_9 ?_
    refine lv_iload_n hx hb d_Tr_builtOf_12 rfl (lv_at hl 1 rfl) ?_
    refine va_iald hx hb hK hP 0 0 rfl rfl (tr_in (by rw [← er_1]; exact c_2) hcn htl) d_Tr_builtOf_13 ?_
    refine lv_goto (tgt := 18) hx hb d_Tr_builtOf_14 (by decide) ?_
    have hP := hP.sub (ws' := [(t0, .inr (5, [.int (nI cn), .int lb, .ref a0, .ref a1, .ref a2, .ref a3, .ref a4, .ref a5, .ref a6, .ref a7, .ref a8, .ref a9, .ref a10, .ref a11, .ref a12, .ref a13, .ref a14, .int po])), (a12, .inl (k12, tl, .inl g12))]) [1, 0] rfl
    have hD := hD.sub (ws' := [(t0, .inr (5, [.int (nI cn), .int lb, .ref a0, .ref a1, .ref a2, .ref a3, .ref a4, .ref a5, .ref a6, .ref a7, .ref a8, .ref a9, .ref a10, .ref a11, .ref a12, .ref a13, .ref a14, .int po])), (a12, .inl (k12, tl, .inl g12))]) [1, 0] (by decide) rfl
    exact W.iret (v := (g12 p1.toNatClampNeg)) hx hb hr (fun t ht hW => ⟨⟨(g12 p1.toNatClampNeg), (), rfl, by rw [tr_built, ← er_1, if_neg c_2], by rw [ht]; exact hP, va_K.moved hW.alike hK, hD⟩, hS.F ht⟩) hS.2.2 d_Tr_builtOf_18
def tr_bblocks (cn : Nat) (g13 : Nat → Int32) (p1 : Int32) : Int32 := if (tr_has cn p1) = 0 then (0) else (g13 p1.toNatClampNeg)
set_option maxHeartbeats 4000000 in
set_option maxRecDepth 100000 in
theorem c_Tr_builtBlocksOf (l : Launch) (dC : Nat → ClassId) (dI : Nat → Nat → Nat) (t0 sz : Nat) (a0 a1 a2 a3 a4 a5 a6 a7 a8 a9 a10 a11 a12 a13 a14 : Nat) (cn tl : Nat) (lb po : Int32) (k13 : ClassId) (g13 : Nat → Int32) (hcn : cn ≤ tl) (htl : tl < 2 ^ 31) (p1 : Int32) : Met l y_Tr_builtBlocksOf (.code y_Tr_builtBlocksOf b_Tr_builtBlocksOf 2 (some .int) :: V_Tr) ({ frames := 1, cells := 0, slots := 0, locals := 21 }) (va_Pc [.ref t0, .int p1] (fun U => U.heap.size = sz ∧ at_ (dC, dI) (fun _ => True) [(t0, .inr (5, [.int (nI cn), .int lb, .ref a0, .ref a1, .ref a2, .ref a3, .ref a4, .ref a5, .ref a6, .ref a7, .ref a8, .ref a9, .ref a10, .ref a11, .ref a12, .ref a13, .ref a14, .int po])), (a13, .inl (k13, tl, .inl g13))] [(k13, .int)] U)) (va_Qi (fun (r : Int32) (u : Unit) => r = tr_bblocks cn g13 p1) (fun (u : Unit) t => at_ (dC, dI) (va_A [(t0, .inr (5, [.int (nI cn), .int lb, .ref a0, .ref a1, .ref a2, .ref a3, .ref a4, .ref a5, .ref a6, .ref a7, .ref a8, .ref a9, .ref a10, .ref a11, .ref a12, .ref a13, .ref a14, .int po])), (a13, .inl (k13, tl, .inl g13))] sz) [(t0, .inr (5, [.int (nI cn), .int lb, .ref a0, .ref a1, .ref a2, .ref a3, .ref a4, .ref a5, .ref a6, .ref a7, .ref a8, .ref a9, .ref a10, .ref a11, .ref a12, .ref a13, .ref a14, .int po])), (a13, .inl (k13, tl, .inl g13))] [(k13, .int)] t) (va_A [(t0, .inr (5, [.int (nI cn), .int lb, .ref a0, .ref a1, .ref a2, .ref a3, .ref a4, .ref a5, .ref a6, .ref a7, .ref a8, .ref a9, .ref a10, .ref a11, .ref a12, .ref a13, .ref a14, .int po])), (a13, .inl (k13, tl, .inl g13))] sz)) 0 0 (va_A [(t0, .inr (5, [.int (nI cn), .int lb, .ref a0, .ref a1, .ref a2, .ref a3, .ref a4, .ref a5, .ref a6, .ref a7, .ref a8, .ref a9, .ref a10, .ref a11, .ref a12, .ref a13, .ref a14, .int po])), (a13, .inl (k13, tl, .inl g13))] sz) := by
  refine Met.ofW (cc := b_Tr_builtBlocksOf) (maxL := 2) (ret := (some .int)) (by decide) rfl ?_
  intro p e s m args below meth c s₁ B hml hv
  obtain ⟨rfl, hsz, hP, hK, hD0⟩ := hv
  have hx := B.exec
  have hb := B.bytes
  have hr := B.returns
  have hts0 := atoms_spec (ws := .code y_Tr_builtBlocksOf b_Tr_builtBlocksOf 2 (some .int) :: V_Tr) B.pre
  have hts : ∀ w ∈ V_Tr, w.before ([.ref t0, .int p1] : List Value).toArray s = true := fun w h => hts0 w (List.mem_cons_of_mem _ h)
  have hown : s.vm.findClass R_Tr = some m.cls := findClass_of_methodNamed B.named
  have hlocks := B.notSynchronized
  subst hsz
  have hD := hD0.self (sz := s.heap.size)
  generalize hAe : va_A [(t0, .inr (5, [.int (nI cn), .int lb, .ref a0, .ref a1, .ref a2, .ref a3, .ref a4, .ref a5, .ref a6, .ref a7, .ref a8, .ref a9, .ref a10, .ref a11, .ref a12, .ref a13, .ref a14, .int po])), (a13, .inl (k13, tl, .inl g13))] s.heap.size = A at hD ⊢
  have hA : ∀ q : Nat, s.heap.size ≤ q → A q := fun q h => by rw [← hAe]; exact Or.inr h
  have hS : va_S A s.heap s.heap [] := va_S.rf
  have hP : va_P (dC, dI) classes [(t0, .inr (5, [.int (nI cn), .int lb, .ref a0, .ref a1, .ref a2, .ref a3, .ref a4, .ref a5, .ref a6, .ref a7, .ref a8, .ref a9, .ref a10, .ref a11, .ref a12, .ref a13, .ref a14, .int po])), (a13, .inl (k13, tl, .inl g13))] s.heap := hP
  have hK : va_K (dC, dI) classes [(k13, .int)] s := hK
  have hl := lv_entry ([.ref t0, .int p1]) (n := 2) (Nat.le_of_ble_eq_true rfl)
  rw [lg_entry_eq]
  generalize (lg_sl ([.ref t0, .int p1]) ++ List.replicate (2 - (lg_sl ([.ref t0, .int p1])).length) Slot.unset).toArray = ls at hl ⊢
  have hl : lv_has ls 2 [(0, .ref t0), (1, .int p1)] := hl
  refine lv_aload_n hx hb d_Tr_builtBlocksOf_0 rfl (lv_at hl 0 rfl) ?_
  refine lv_iload_n hx hb d_Tr_builtBlocksOf_1 rfl (lv_at hl 1 rfl) ?_
  have hPc := hP.sub (ws' := [(t0, .inr (5, [.int (nI cn), .int lb, .ref a0, .ref a1, .ref a2, .ref a3, .ref a4, .ref a5, .ref a6, .ref a7, .ref a8, .ref a9, .ref a10, .ref a11, .ref a12, .ref a13, .ref a14, .int po]))]) [0] rfl
  have hDc := hD.sub (ws' := [(t0, .inr (5, [.int (nI cn), .int lb, .ref a0, .ref a1, .ref a2, .ref a3, .ref a4, .ref a5, .ref a6, .ref a7, .ref a8, .ref a9, .ref a10, .ref a11, .ref a12, .ref a13, .ref a14, .int po]))]) [0] (by decide) rfl
  have hKc := hK.sub (tys' := []) [] rfl
  have hFc := va_free (wc := [(t0, .inr (5, [.int (nI cn), .int lb, .ref a0, .ref a1, .ref a2, .ref a3, .ref a4, .ref a5, .ref a6, .ref a7, .ref a8, .ref a9, .ref a10, .ref a11, .ref a12, .ref a13, .ref a14, .int po]))]) hD hS hA [0] rfl
  refine va_calli (va_runV (As := [.int p1]) (rest := []) ⟨hx, hb, hml, hown, hts⟩ (c_Tr_has l dC dI t0 s.heap.size a0 a1 a2 a3 a4 a5 a6 a7 a8 a9 a10 a11 a12 a13 a14 cn tl lb po p1) (cwV 1 hts (gwV good_Tr (k_Tr_38) (k_Tr_39) (k_Tr_40) (k_Tr_0) (wcs (k_Tr_41) (fun _ h => h))) rfl rfl rfl (by decide +kernel) ⟨Nat.le_of_ble_eq_true rfl, Nat.le_of_ble_eq_true rfl⟩) (pv_of hPc hKc hDc (va_recv hKc hPc (ci := 5) (q0 := 0) rfl rfl)) rfl rfl hl.1 rfl (lv_room (Nat.le_of_ble_eq_true rfl)) d_Tr_builtBlocksOf_2 ⟨by decide, by decide⟩) hS (fun q _ h => hFc q h) hFc (fun r_1 u t H1 locs ht hvm hw hB hz1 hk1 hS => ?_)
  have er_1 := hw
  obtain ⟨hP1, hK1, hD1⟩ := hB
  rw [ht] at hP1
  have hP1 : va_P (dC, dI) classes [(t0, .inr (5, [.int (nI cn), .int lb, .ref a0, .ref a1, .ref a2, .ref a3, .ref a4, .ref a5, .ref a6, .ref a7, .ref a8, .ref a9, .ref a10, .ref a11, .ref a12, .ref a13, .ref a14, .int po]))] H1 := hP1
  have hD1 : va_D _ [(t0, .inr (5, [.int (nI cn), .int lb, .ref a0, .ref a1, .ref a2, .ref a3, .ref a4, .ref a5, .ref a6, .ref a7, .ref a8, .ref a9, .ref a10, .ref a11, .ref a12, .ref a13, .ref a14, .int po]))] := hD1
  obtain ⟨hP, hD⟩ := va_join (wr := [(a13, .inl (k13, tl, .inl g13))]) (w1 := [(t0, .inr (5, [.int (nI cn), .int lb, .ref a0, .ref a1, .ref a2, .ref a3, .ref a4, .ref a5, .ref a6, .ref a7, .ref a8, .ref a9, .ref a10, .ref a11, .ref a12, .ref a13, .ref a14, .int po]))]) hP hD [0] [1] rfl rfl (by decide) (by decide) hk1 hFc hP1 hD1
  generalize H1 = H at hP hS ⊢
  have hP : va_P (dC, dI) classes [(a13, .inl (k13, tl, .inl g13)), (t0, .inr (5, [.int (nI cn), .int lb, .ref a0, .ref a1, .ref a2, .ref a3, .ref a4, .ref a5, .ref a6, .ref a7, .ref a8, .ref a9, .ref a10, .ref a11, .ref a12, .ref a13, .ref a14, .int po]))] H := hP
  have hD : va_D A [(a13, .inl (k13, tl, .inl g13)), (t0, .inr (5, [.int (nI cn), .int lb, .ref a0, .ref a1, .ref a2, .ref a3, .ref a4, .ref a5, .ref a6, .ref a7, .ref a8, .ref a9, .ref a10, .ref a11, .ref a12, .ref a13, .ref a14, .int po]))] := hD
  refine lv_if_eq (tgt := 17) hx hb d_Tr_builtBlocksOf_5 (by decide) (fun c_2 => ?_) (fun c_2 => ?_)
  · refine lv_iconst (v := 0) hx hb d_Tr_builtBlocksOf_17 (by decide) ?_
    have hP := hP.sub (ws' := [(t0, .inr (5, [.int (nI cn), .int lb, .ref a0, .ref a1, .ref a2, .ref a3, .ref a4, .ref a5, .ref a6, .ref a7, .ref a8, .ref a9, .ref a10, .ref a11, .ref a12, .ref a13, .ref a14, .int po])), (a13, .inl (k13, tl, .inl g13))]) [1, 0] rfl
    have hD := hD.sub (ws' := [(t0, .inr (5, [.int (nI cn), .int lb, .ref a0, .ref a1, .ref a2, .ref a3, .ref a4, .ref a5, .ref a6, .ref a7, .ref a8, .ref a9, .ref a10, .ref a11, .ref a12, .ref a13, .ref a14, .int po])), (a13, .inl (k13, tl, .inl g13))]) [1, 0] (by decide) rfl
    exact W.iret (v := 0) hx hb hr (fun t ht hW => ⟨⟨0, (), rfl, by rw [tr_bblocks, ← er_1, if_pos c_2], by rw [ht]; exact hP, va_K.moved hW.alike hK, hD⟩, hS.F ht⟩) hS.2.2 d_Tr_builtBlocksOf_18
  · refine lv_aload_n hx hb d_Tr_builtBlocksOf_8 rfl (lv_at hl 0 rfl) ?_
    refine va_get (D := (dC, dI)) (ci := 5) (v := .ref a13) (C := R_Tr) (T := F_Tr) (N := 18) hx hb hts i_Tr hown hK hP 1 rfl rfl 15 (by decide) (hts _ (k_Tr_20)) (fun _ h9 => h9) rfl d_Tr_builtBlocksOf_9 ?_
    refine lv_iload_n hx hb d_Tr_builtBlocksOf_12 rfl (lv_at hl 1 rfl) ?_
    refine va_iald hx hb hK hP 0 0 rfl rfl (tr_in (by rw [← er_1]; exact c_2) hcn htl) d_Tr_builtBlocksOf_13 ?_
    refine lv_goto (tgt := 18) hx hb d_Tr_builtBlocksOf_14 (by decide) ?_
    have hP := hP.sub (ws' := [(t0, .inr (5, [.int (nI cn), .int lb, .ref a0, .ref a1, .ref a2, .ref a3, .ref a4, .ref a5, .ref a6, .ref a7, .ref a8, .ref a9, .ref a10, .ref a11, .ref a12, .ref a13, .ref a14, .int po])), (a13, .inl (k13, tl, .inl g13))]) [1, 0] rfl
    have hD := hD.sub (ws' := [(t0, .inr (5, [.int (nI cn), .int lb, .ref a0, .ref a1, .ref a2, .ref a3, .ref a4, .ref a5, .ref a6, .ref a7, .ref a8, .ref a9, .ref a10, .ref a11, .ref a12, .ref a13, .ref a14, .int po])), (a13, .inl (k13, tl, .inl g13))]) [1, 0] (by decide) rfl
    exact W.iret (v := (g13 p1.toNatClampNeg)) hx hb hr (fun t ht hW => ⟨⟨(g13 p1.toNatClampNeg), (), rfl, by rw [tr_bblocks, ← er_1, if_neg c_2], by rw [ht]; exact hP, va_K.moved hW.alike hK, hD⟩, hS.F ht⟩) hS.2.2 d_Tr_builtBlocksOf_18
def tr_slot (cn : Nat) (g5 : Nat → Int32) (p1 : Int32) : Int32 := if (tr_has cn p1) = 0 then (0) else (g5 p1.toNatClampNeg)
set_option maxHeartbeats 4000000 in
set_option maxRecDepth 100000 in
theorem c_Tr_slotOf (l : Launch) (dC : Nat → ClassId) (dI : Nat → Nat → Nat) (t0 sz : Nat) (a0 a1 a2 a3 a4 a5 a6 a7 a8 a9 a10 a11 a12 a13 a14 : Nat) (cn tl : Nat) (lb po : Int32) (k5 : ClassId) (g5 : Nat → Int32) (hcn : cn ≤ tl) (htl : tl < 2 ^ 31) (p1 : Int32) : Met l y_Tr_slotOf (.code y_Tr_slotOf b_Tr_slotOf 2 (some .int) :: V_Tr) ({ frames := 1, cells := 0, slots := 0, locals := 21 }) (va_Pc [.ref t0, .int p1] (fun U => U.heap.size = sz ∧ at_ (dC, dI) (fun _ => True) [(t0, .inr (5, [.int (nI cn), .int lb, .ref a0, .ref a1, .ref a2, .ref a3, .ref a4, .ref a5, .ref a6, .ref a7, .ref a8, .ref a9, .ref a10, .ref a11, .ref a12, .ref a13, .ref a14, .int po])), (a5, .inl (k5, tl, .inl g5))] [(k5, .int)] U)) (va_Qi (fun (r : Int32) (u : Unit) => r = tr_slot cn g5 p1) (fun (u : Unit) t => at_ (dC, dI) (va_A [(t0, .inr (5, [.int (nI cn), .int lb, .ref a0, .ref a1, .ref a2, .ref a3, .ref a4, .ref a5, .ref a6, .ref a7, .ref a8, .ref a9, .ref a10, .ref a11, .ref a12, .ref a13, .ref a14, .int po])), (a5, .inl (k5, tl, .inl g5))] sz) [(t0, .inr (5, [.int (nI cn), .int lb, .ref a0, .ref a1, .ref a2, .ref a3, .ref a4, .ref a5, .ref a6, .ref a7, .ref a8, .ref a9, .ref a10, .ref a11, .ref a12, .ref a13, .ref a14, .int po])), (a5, .inl (k5, tl, .inl g5))] [(k5, .int)] t) (va_A [(t0, .inr (5, [.int (nI cn), .int lb, .ref a0, .ref a1, .ref a2, .ref a3, .ref a4, .ref a5, .ref a6, .ref a7, .ref a8, .ref a9, .ref a10, .ref a11, .ref a12, .ref a13, .ref a14, .int po])), (a5, .inl (k5, tl, .inl g5))] sz)) 0 0 (va_A [(t0, .inr (5, [.int (nI cn), .int lb, .ref a0, .ref a1, .ref a2, .ref a3, .ref a4, .ref a5, .ref a6, .ref a7, .ref a8, .ref a9, .ref a10, .ref a11, .ref a12, .ref a13, .ref a14, .int po])), (a5, .inl (k5, tl, .inl g5))] sz) := by
  refine Met.ofW (cc := b_Tr_slotOf) (maxL := 2) (ret := (some .int)) (by decide) rfl ?_
  intro p e s m args below meth c s₁ B hml hv
  obtain ⟨rfl, hsz, hP, hK, hD0⟩ := hv
  have hx := B.exec
  have hb := B.bytes
  have hr := B.returns
  have hts0 := atoms_spec (ws := .code y_Tr_slotOf b_Tr_slotOf 2 (some .int) :: V_Tr) B.pre
  have hts : ∀ w ∈ V_Tr, w.before ([.ref t0, .int p1] : List Value).toArray s = true := fun w h => hts0 w (List.mem_cons_of_mem _ h)
  have hown : s.vm.findClass R_Tr = some m.cls := findClass_of_methodNamed B.named
  have hlocks := B.notSynchronized
  subst hsz
  have hD := hD0.self (sz := s.heap.size)
  generalize hAe : va_A [(t0, .inr (5, [.int (nI cn), .int lb, .ref a0, .ref a1, .ref a2, .ref a3, .ref a4, .ref a5, .ref a6, .ref a7, .ref a8, .ref a9, .ref a10, .ref a11, .ref a12, .ref a13, .ref a14, .int po])), (a5, .inl (k5, tl, .inl g5))] s.heap.size = A at hD ⊢
  have hA : ∀ q : Nat, s.heap.size ≤ q → A q := fun q h => by rw [← hAe]; exact Or.inr h
  have hS : va_S A s.heap s.heap [] := va_S.rf
  have hP : va_P (dC, dI) classes [(t0, .inr (5, [.int (nI cn), .int lb, .ref a0, .ref a1, .ref a2, .ref a3, .ref a4, .ref a5, .ref a6, .ref a7, .ref a8, .ref a9, .ref a10, .ref a11, .ref a12, .ref a13, .ref a14, .int po])), (a5, .inl (k5, tl, .inl g5))] s.heap := hP
  have hK : va_K (dC, dI) classes [(k5, .int)] s := hK
  have hl := lv_entry ([.ref t0, .int p1]) (n := 2) (Nat.le_of_ble_eq_true rfl)
  rw [lg_entry_eq]
  generalize (lg_sl ([.ref t0, .int p1]) ++ List.replicate (2 - (lg_sl ([.ref t0, .int p1])).length) Slot.unset).toArray = ls at hl ⊢
  have hl : lv_has ls 2 [(0, .ref t0), (1, .int p1)] := hl
  refine lv_aload_n hx hb d_Tr_slotOf_0 rfl (lv_at hl 0 rfl) ?_
  refine lv_iload_n hx hb d_Tr_slotOf_1 rfl (lv_at hl 1 rfl) ?_
  have hPc := hP.sub (ws' := [(t0, .inr (5, [.int (nI cn), .int lb, .ref a0, .ref a1, .ref a2, .ref a3, .ref a4, .ref a5, .ref a6, .ref a7, .ref a8, .ref a9, .ref a10, .ref a11, .ref a12, .ref a13, .ref a14, .int po]))]) [0] rfl
  have hDc := hD.sub (ws' := [(t0, .inr (5, [.int (nI cn), .int lb, .ref a0, .ref a1, .ref a2, .ref a3, .ref a4, .ref a5, .ref a6, .ref a7, .ref a8, .ref a9, .ref a10, .ref a11, .ref a12, .ref a13, .ref a14, .int po]))]) [0] (by decide) rfl
  have hKc := hK.sub (tys' := []) [] rfl
  have hFc := va_free (wc := [(t0, .inr (5, [.int (nI cn), .int lb, .ref a0, .ref a1, .ref a2, .ref a3, .ref a4, .ref a5, .ref a6, .ref a7, .ref a8, .ref a9, .ref a10, .ref a11, .ref a12, .ref a13, .ref a14, .int po]))]) hD hS hA [0] rfl
  refine va_calli (va_runV (As := [.int p1]) (rest := []) ⟨hx, hb, hml, hown, hts⟩ (c_Tr_has l dC dI t0 s.heap.size a0 a1 a2 a3 a4 a5 a6 a7 a8 a9 a10 a11 a12 a13 a14 cn tl lb po p1) (cwV 1 hts (gwV good_Tr (k_Tr_38) (k_Tr_39) (k_Tr_40) (k_Tr_0) (wcs (k_Tr_41) (fun _ h => h))) rfl rfl rfl (by decide +kernel) ⟨Nat.le_of_ble_eq_true rfl, Nat.le_of_ble_eq_true rfl⟩) (pv_of hPc hKc hDc (va_recv hKc hPc (ci := 5) (q0 := 0) rfl rfl)) rfl rfl hl.1 rfl (lv_room (Nat.le_of_ble_eq_true rfl)) d_Tr_slotOf_2 ⟨by decide, by decide⟩) hS (fun q _ h => hFc q h) hFc (fun r_1 u t H1 locs ht hvm hw hB hz1 hk1 hS => ?_)
  have er_1 := hw
  obtain ⟨hP1, hK1, hD1⟩ := hB
  rw [ht] at hP1
  have hP1 : va_P (dC, dI) classes [(t0, .inr (5, [.int (nI cn), .int lb, .ref a0, .ref a1, .ref a2, .ref a3, .ref a4, .ref a5, .ref a6, .ref a7, .ref a8, .ref a9, .ref a10, .ref a11, .ref a12, .ref a13, .ref a14, .int po]))] H1 := hP1
  have hD1 : va_D _ [(t0, .inr (5, [.int (nI cn), .int lb, .ref a0, .ref a1, .ref a2, .ref a3, .ref a4, .ref a5, .ref a6, .ref a7, .ref a8, .ref a9, .ref a10, .ref a11, .ref a12, .ref a13, .ref a14, .int po]))] := hD1
  obtain ⟨hP, hD⟩ := va_join (wr := [(a5, .inl (k5, tl, .inl g5))]) (w1 := [(t0, .inr (5, [.int (nI cn), .int lb, .ref a0, .ref a1, .ref a2, .ref a3, .ref a4, .ref a5, .ref a6, .ref a7, .ref a8, .ref a9, .ref a10, .ref a11, .ref a12, .ref a13, .ref a14, .int po]))]) hP hD [0] [1] rfl rfl (by decide) (by decide) hk1 hFc hP1 hD1
  generalize H1 = H at hP hS ⊢
  have hP : va_P (dC, dI) classes [(a5, .inl (k5, tl, .inl g5)), (t0, .inr (5, [.int (nI cn), .int lb, .ref a0, .ref a1, .ref a2, .ref a3, .ref a4, .ref a5, .ref a6, .ref a7, .ref a8, .ref a9, .ref a10, .ref a11, .ref a12, .ref a13, .ref a14, .int po]))] H := hP
  have hD : va_D A [(a5, .inl (k5, tl, .inl g5)), (t0, .inr (5, [.int (nI cn), .int lb, .ref a0, .ref a1, .ref a2, .ref a3, .ref a4, .ref a5, .ref a6, .ref a7, .ref a8, .ref a9, .ref a10, .ref a11, .ref a12, .ref a13, .ref a14, .int po]))] := hD
  refine lv_if_eq (tgt := 17) hx hb d_Tr_slotOf_5 (by decide) (fun c_2 => ?_) (fun c_2 => ?_)
  · refine lv_iconst (v := 0) hx hb d_Tr_slotOf_17 (by decide) ?_
    have hP := hP.sub (ws' := [(t0, .inr (5, [.int (nI cn), .int lb, .ref a0, .ref a1, .ref a2, .ref a3, .ref a4, .ref a5, .ref a6, .ref a7, .ref a8, .ref a9, .ref a10, .ref a11, .ref a12, .ref a13, .ref a14, .int po])), (a5, .inl (k5, tl, .inl g5))]) [1, 0] rfl
    have hD := hD.sub (ws' := [(t0, .inr (5, [.int (nI cn), .int lb, .ref a0, .ref a1, .ref a2, .ref a3, .ref a4, .ref a5, .ref a6, .ref a7, .ref a8, .ref a9, .ref a10, .ref a11, .ref a12, .ref a13, .ref a14, .int po])), (a5, .inl (k5, tl, .inl g5))]) [1, 0] (by decide) rfl
    exact W.iret (v := 0) hx hb hr (fun t ht hW => ⟨⟨0, (), rfl, by rw [tr_slot, ← er_1, if_pos c_2], by rw [ht]; exact hP, va_K.moved hW.alike hK, hD⟩, hS.F ht⟩) hS.2.2 d_Tr_slotOf_18
  · refine lv_aload_n hx hb d_Tr_slotOf_8 rfl (lv_at hl 0 rfl) ?_
    refine va_get (D := (dC, dI)) (ci := 5) (v := .ref a5) (C := R_Tr) (T := F_Tr) (N := 18) hx hb hts i_Tr hown hK hP 1 rfl rfl 7 (by decide) (hts _ (k_Tr_12)) (fun _ h9 => h9) rfl d_Tr_slotOf_9 ?_
    refine lv_iload_n hx hb d_Tr_slotOf_12 rfl (lv_at hl 1 rfl) ?_
    refine va_iald hx hb hK hP 0 0 rfl rfl (tr_in (by rw [← er_1]; exact c_2) hcn htl) d_Tr_slotOf_13 ?_
    refine lv_goto (tgt := 18) hx hb d_Tr_slotOf_14 (by decide) ?_
    have hP := hP.sub (ws' := [(t0, .inr (5, [.int (nI cn), .int lb, .ref a0, .ref a1, .ref a2, .ref a3, .ref a4, .ref a5, .ref a6, .ref a7, .ref a8, .ref a9, .ref a10, .ref a11, .ref a12, .ref a13, .ref a14, .int po])), (a5, .inl (k5, tl, .inl g5))]) [1, 0] rfl
    have hD := hD.sub (ws' := [(t0, .inr (5, [.int (nI cn), .int lb, .ref a0, .ref a1, .ref a2, .ref a3, .ref a4, .ref a5, .ref a6, .ref a7, .ref a8, .ref a9, .ref a10, .ref a11, .ref a12, .ref a13, .ref a14, .int po])), (a5, .inl (k5, tl, .inl g5))]) [1, 0] (by decide) rfl
    exact W.iret (v := (g5 p1.toNatClampNeg)) hx hb hr (fun t ht hW => ⟨⟨(g5 p1.toNatClampNeg), (), rfl, by rw [tr_slot, ← er_1, if_neg c_2], by rw [ht]; exact hP, va_K.moved hW.alike hK, hD⟩, hS.F ht⟩) hS.2.2 d_Tr_slotOf_18
def tr_spot (cn : Nat) (g4 : Nat → Int32) (p1 : Int32) : Int32 := if (tr_has cn p1) = 0 then (0) else (g4 p1.toNatClampNeg)
set_option maxHeartbeats 4000000 in
set_option maxRecDepth 100000 in
theorem c_Tr_spotOf (l : Launch) (dC : Nat → ClassId) (dI : Nat → Nat → Nat) (t0 sz : Nat) (a0 a1 a2 a3 a4 a5 a6 a7 a8 a9 a10 a11 a12 a13 a14 : Nat) (cn tl : Nat) (lb po : Int32) (k4 : ClassId) (g4 : Nat → Int32) (hcn : cn ≤ tl) (htl : tl < 2 ^ 31) (p1 : Int32) : Met l y_Tr_spotOf (.code y_Tr_spotOf b_Tr_spotOf 2 (some .int) :: V_Tr) ({ frames := 1, cells := 0, slots := 0, locals := 21 }) (va_Pc [.ref t0, .int p1] (fun U => U.heap.size = sz ∧ at_ (dC, dI) (fun _ => True) [(t0, .inr (5, [.int (nI cn), .int lb, .ref a0, .ref a1, .ref a2, .ref a3, .ref a4, .ref a5, .ref a6, .ref a7, .ref a8, .ref a9, .ref a10, .ref a11, .ref a12, .ref a13, .ref a14, .int po])), (a4, .inl (k4, tl, .inl g4))] [(k4, .int)] U)) (va_Qi (fun (r : Int32) (u : Unit) => r = tr_spot cn g4 p1) (fun (u : Unit) t => at_ (dC, dI) (va_A [(t0, .inr (5, [.int (nI cn), .int lb, .ref a0, .ref a1, .ref a2, .ref a3, .ref a4, .ref a5, .ref a6, .ref a7, .ref a8, .ref a9, .ref a10, .ref a11, .ref a12, .ref a13, .ref a14, .int po])), (a4, .inl (k4, tl, .inl g4))] sz) [(t0, .inr (5, [.int (nI cn), .int lb, .ref a0, .ref a1, .ref a2, .ref a3, .ref a4, .ref a5, .ref a6, .ref a7, .ref a8, .ref a9, .ref a10, .ref a11, .ref a12, .ref a13, .ref a14, .int po])), (a4, .inl (k4, tl, .inl g4))] [(k4, .int)] t) (va_A [(t0, .inr (5, [.int (nI cn), .int lb, .ref a0, .ref a1, .ref a2, .ref a3, .ref a4, .ref a5, .ref a6, .ref a7, .ref a8, .ref a9, .ref a10, .ref a11, .ref a12, .ref a13, .ref a14, .int po])), (a4, .inl (k4, tl, .inl g4))] sz)) 0 0 (va_A [(t0, .inr (5, [.int (nI cn), .int lb, .ref a0, .ref a1, .ref a2, .ref a3, .ref a4, .ref a5, .ref a6, .ref a7, .ref a8, .ref a9, .ref a10, .ref a11, .ref a12, .ref a13, .ref a14, .int po])), (a4, .inl (k4, tl, .inl g4))] sz) := by
  refine Met.ofW (cc := b_Tr_spotOf) (maxL := 2) (ret := (some .int)) (by decide) rfl ?_
  intro p e s m args below meth c s₁ B hml hv
  obtain ⟨rfl, hsz, hP, hK, hD0⟩ := hv
  have hx := B.exec
  have hb := B.bytes
  have hr := B.returns
  have hts0 := atoms_spec (ws := .code y_Tr_spotOf b_Tr_spotOf 2 (some .int) :: V_Tr) B.pre
  have hts : ∀ w ∈ V_Tr, w.before ([.ref t0, .int p1] : List Value).toArray s = true := fun w h => hts0 w (List.mem_cons_of_mem _ h)
  have hown : s.vm.findClass R_Tr = some m.cls := findClass_of_methodNamed B.named
  have hlocks := B.notSynchronized
  subst hsz
  have hD := hD0.self (sz := s.heap.size)
  generalize hAe : va_A [(t0, .inr (5, [.int (nI cn), .int lb, .ref a0, .ref a1, .ref a2, .ref a3, .ref a4, .ref a5, .ref a6, .ref a7, .ref a8, .ref a9, .ref a10, .ref a11, .ref a12, .ref a13, .ref a14, .int po])), (a4, .inl (k4, tl, .inl g4))] s.heap.size = A at hD ⊢
  have hA : ∀ q : Nat, s.heap.size ≤ q → A q := fun q h => by rw [← hAe]; exact Or.inr h
  have hS : va_S A s.heap s.heap [] := va_S.rf
  have hP : va_P (dC, dI) classes [(t0, .inr (5, [.int (nI cn), .int lb, .ref a0, .ref a1, .ref a2, .ref a3, .ref a4, .ref a5, .ref a6, .ref a7, .ref a8, .ref a9, .ref a10, .ref a11, .ref a12, .ref a13, .ref a14, .int po])), (a4, .inl (k4, tl, .inl g4))] s.heap := hP
  have hK : va_K (dC, dI) classes [(k4, .int)] s := hK
  have hl := lv_entry ([.ref t0, .int p1]) (n := 2) (Nat.le_of_ble_eq_true rfl)
  rw [lg_entry_eq]
  generalize (lg_sl ([.ref t0, .int p1]) ++ List.replicate (2 - (lg_sl ([.ref t0, .int p1])).length) Slot.unset).toArray = ls at hl ⊢
  have hl : lv_has ls 2 [(0, .ref t0), (1, .int p1)] := hl
  refine lv_aload_n hx hb d_Tr_spotOf_0 rfl (lv_at hl 0 rfl) ?_
  refine lv_iload_n hx hb d_Tr_spotOf_1 rfl (lv_at hl 1 rfl) ?_
  have hPc := hP.sub (ws' := [(t0, .inr (5, [.int (nI cn), .int lb, .ref a0, .ref a1, .ref a2, .ref a3, .ref a4, .ref a5, .ref a6, .ref a7, .ref a8, .ref a9, .ref a10, .ref a11, .ref a12, .ref a13, .ref a14, .int po]))]) [0] rfl
  have hDc := hD.sub (ws' := [(t0, .inr (5, [.int (nI cn), .int lb, .ref a0, .ref a1, .ref a2, .ref a3, .ref a4, .ref a5, .ref a6, .ref a7, .ref a8, .ref a9, .ref a10, .ref a11, .ref a12, .ref a13, .ref a14, .int po]))]) [0] (by decide) rfl
  have hKc := hK.sub (tys' := []) [] rfl
  have hFc := va_free (wc := [(t0, .inr (5, [.int (nI cn), .int lb, .ref a0, .ref a1, .ref a2, .ref a3, .ref a4, .ref a5, .ref a6, .ref a7, .ref a8, .ref a9, .ref a10, .ref a11, .ref a12, .ref a13, .ref a14, .int po]))]) hD hS hA [0] rfl
  refine va_calli (va_runV (As := [.int p1]) (rest := []) ⟨hx, hb, hml, hown, hts⟩ (c_Tr_has l dC dI t0 s.heap.size a0 a1 a2 a3 a4 a5 a6 a7 a8 a9 a10 a11 a12 a13 a14 cn tl lb po p1) (cwV 1 hts (gwV good_Tr (k_Tr_38) (k_Tr_39) (k_Tr_40) (k_Tr_0) (wcs (k_Tr_41) (fun _ h => h))) rfl rfl rfl (by decide +kernel) ⟨Nat.le_of_ble_eq_true rfl, Nat.le_of_ble_eq_true rfl⟩) (pv_of hPc hKc hDc (va_recv hKc hPc (ci := 5) (q0 := 0) rfl rfl)) rfl rfl hl.1 rfl (lv_room (Nat.le_of_ble_eq_true rfl)) d_Tr_spotOf_2 ⟨by decide, by decide⟩) hS (fun q _ h => hFc q h) hFc (fun r_1 u t H1 locs ht hvm hw hB hz1 hk1 hS => ?_)
  have er_1 := hw
  obtain ⟨hP1, hK1, hD1⟩ := hB
  rw [ht] at hP1
  have hP1 : va_P (dC, dI) classes [(t0, .inr (5, [.int (nI cn), .int lb, .ref a0, .ref a1, .ref a2, .ref a3, .ref a4, .ref a5, .ref a6, .ref a7, .ref a8, .ref a9, .ref a10, .ref a11, .ref a12, .ref a13, .ref a14, .int po]))] H1 := hP1
  have hD1 : va_D _ [(t0, .inr (5, [.int (nI cn), .int lb, .ref a0, .ref a1, .ref a2, .ref a3, .ref a4, .ref a5, .ref a6, .ref a7, .ref a8, .ref a9, .ref a10, .ref a11, .ref a12, .ref a13, .ref a14, .int po]))] := hD1
  obtain ⟨hP, hD⟩ := va_join (wr := [(a4, .inl (k4, tl, .inl g4))]) (w1 := [(t0, .inr (5, [.int (nI cn), .int lb, .ref a0, .ref a1, .ref a2, .ref a3, .ref a4, .ref a5, .ref a6, .ref a7, .ref a8, .ref a9, .ref a10, .ref a11, .ref a12, .ref a13, .ref a14, .int po]))]) hP hD [0] [1] rfl rfl (by decide) (by decide) hk1 hFc hP1 hD1
  generalize H1 = H at hP hS ⊢
  have hP : va_P (dC, dI) classes [(a4, .inl (k4, tl, .inl g4)), (t0, .inr (5, [.int (nI cn), .int lb, .ref a0, .ref a1, .ref a2, .ref a3, .ref a4, .ref a5, .ref a6, .ref a7, .ref a8, .ref a9, .ref a10, .ref a11, .ref a12, .ref a13, .ref a14, .int po]))] H := hP
  have hD : va_D A [(a4, .inl (k4, tl, .inl g4)), (t0, .inr (5, [.int (nI cn), .int lb, .ref a0, .ref a1, .ref a2, .ref a3, .ref a4, .ref a5, .ref a6, .ref a7, .ref a8, .ref a9, .ref a10, .ref a11, .ref a12, .ref a13, .ref a14, .int po]))] := hD
  refine lv_if_eq (tgt := 17) hx hb d_Tr_spotOf_5 (by decide) (fun c_2 => ?_) (fun c_2 => ?_)
  · refine lv_iconst (v := 0) hx hb d_Tr_spotOf_17 (by decide) ?_
    have hP := hP.sub (ws' := [(t0, .inr (5, [.int (nI cn), .int lb, .ref a0, .ref a1, .ref a2, .ref a3, .ref a4, .ref a5, .ref a6, .ref a7, .ref a8, .ref a9, .ref a10, .ref a11, .ref a12, .ref a13, .ref a14, .int po])), (a4, .inl (k4, tl, .inl g4))]) [1, 0] rfl
    have hD := hD.sub (ws' := [(t0, .inr (5, [.int (nI cn), .int lb, .ref a0, .ref a1, .ref a2, .ref a3, .ref a4, .ref a5, .ref a6, .ref a7, .ref a8, .ref a9, .ref a10, .ref a11, .ref a12, .ref a13, .ref a14, .int po])), (a4, .inl (k4, tl, .inl g4))]) [1, 0] (by decide) rfl
    exact W.iret (v := 0) hx hb hr (fun t ht hW => ⟨⟨0, (), rfl, by rw [tr_spot, ← er_1, if_pos c_2], by rw [ht]; exact hP, va_K.moved hW.alike hK, hD⟩, hS.F ht⟩) hS.2.2 d_Tr_spotOf_18
  · refine lv_aload_n hx hb d_Tr_spotOf_8 rfl (lv_at hl 0 rfl) ?_
    refine va_get (D := (dC, dI)) (ci := 5) (v := .ref a4) (C := R_Tr) (T := F_Tr) (N := 18) hx hb hts i_Tr hown hK hP 1 rfl rfl 6 (by decide) (hts _ (k_Tr_11)) (fun _ h9 => h9) rfl d_Tr_spotOf_9 ?_
    refine lv_iload_n hx hb d_Tr_spotOf_12 rfl (lv_at hl 1 rfl) ?_
    refine va_iald hx hb hK hP 0 0 rfl rfl (tr_in (by rw [← er_1]; exact c_2) hcn htl) d_Tr_spotOf_13 ?_
    refine lv_goto (tgt := 18) hx hb d_Tr_spotOf_14 (by decide) ?_
    have hP := hP.sub (ws' := [(t0, .inr (5, [.int (nI cn), .int lb, .ref a0, .ref a1, .ref a2, .ref a3, .ref a4, .ref a5, .ref a6, .ref a7, .ref a8, .ref a9, .ref a10, .ref a11, .ref a12, .ref a13, .ref a14, .int po])), (a4, .inl (k4, tl, .inl g4))]) [1, 0] rfl
    have hD := hD.sub (ws' := [(t0, .inr (5, [.int (nI cn), .int lb, .ref a0, .ref a1, .ref a2, .ref a3, .ref a4, .ref a5, .ref a6, .ref a7, .ref a8, .ref a9, .ref a10, .ref a11, .ref a12, .ref a13, .ref a14, .int po])), (a4, .inl (k4, tl, .inl g4))]) [1, 0] (by decide) rfl
    exact W.iret (v := (g4 p1.toNatClampNeg)) hx hb hr (fun t ht hW => ⟨⟨(g4 p1.toNatClampNeg), (), rfl, by rw [tr_spot, ← er_1, if_neg c_2], by rw [ht]; exact hP, va_K.moved hW.alike hK, hD⟩, hS.F ht⟩) hS.2.2 d_Tr_spotOf_18
def tr_size (cn : Nat) (g2 : Nat → Int32) (p1 : Int32) : Int32 := if (tr_has cn p1) = 0 then (0) else (g2 p1.toNatClampNeg)
set_option maxHeartbeats 4000000 in
set_option maxRecDepth 100000 in
theorem c_Tr_sizeOf (l : Launch) (dC : Nat → ClassId) (dI : Nat → Nat → Nat) (t0 sz : Nat) (a0 a1 a2 a3 a4 a5 a6 a7 a8 a9 a10 a11 a12 a13 a14 : Nat) (cn tl : Nat) (lb po : Int32) (k2 : ClassId) (g2 : Nat → Int32) (hcn : cn ≤ tl) (htl : tl < 2 ^ 31) (p1 : Int32) : Met l y_Tr_sizeOf (.code y_Tr_sizeOf b_Tr_sizeOf 2 (some .int) :: V_Tr) ({ frames := 1, cells := 0, slots := 0, locals := 21 }) (va_Pc [.ref t0, .int p1] (fun U => U.heap.size = sz ∧ at_ (dC, dI) (fun _ => True) [(t0, .inr (5, [.int (nI cn), .int lb, .ref a0, .ref a1, .ref a2, .ref a3, .ref a4, .ref a5, .ref a6, .ref a7, .ref a8, .ref a9, .ref a10, .ref a11, .ref a12, .ref a13, .ref a14, .int po])), (a2, .inl (k2, tl, .inl g2))] [(k2, .int)] U)) (va_Qi (fun (r : Int32) (u : Unit) => r = tr_size cn g2 p1) (fun (u : Unit) t => at_ (dC, dI) (va_A [(t0, .inr (5, [.int (nI cn), .int lb, .ref a0, .ref a1, .ref a2, .ref a3, .ref a4, .ref a5, .ref a6, .ref a7, .ref a8, .ref a9, .ref a10, .ref a11, .ref a12, .ref a13, .ref a14, .int po])), (a2, .inl (k2, tl, .inl g2))] sz) [(t0, .inr (5, [.int (nI cn), .int lb, .ref a0, .ref a1, .ref a2, .ref a3, .ref a4, .ref a5, .ref a6, .ref a7, .ref a8, .ref a9, .ref a10, .ref a11, .ref a12, .ref a13, .ref a14, .int po])), (a2, .inl (k2, tl, .inl g2))] [(k2, .int)] t) (va_A [(t0, .inr (5, [.int (nI cn), .int lb, .ref a0, .ref a1, .ref a2, .ref a3, .ref a4, .ref a5, .ref a6, .ref a7, .ref a8, .ref a9, .ref a10, .ref a11, .ref a12, .ref a13, .ref a14, .int po])), (a2, .inl (k2, tl, .inl g2))] sz)) 0 0 (va_A [(t0, .inr (5, [.int (nI cn), .int lb, .ref a0, .ref a1, .ref a2, .ref a3, .ref a4, .ref a5, .ref a6, .ref a7, .ref a8, .ref a9, .ref a10, .ref a11, .ref a12, .ref a13, .ref a14, .int po])), (a2, .inl (k2, tl, .inl g2))] sz) := by
  refine Met.ofW (cc := b_Tr_sizeOf) (maxL := 2) (ret := (some .int)) (by decide) rfl ?_
  intro p e s m args below meth c s₁ B hml hv
  obtain ⟨rfl, hsz, hP, hK, hD0⟩ := hv
  have hx := B.exec
  have hb := B.bytes
  have hr := B.returns
  have hts0 := atoms_spec (ws := .code y_Tr_sizeOf b_Tr_sizeOf 2 (some .int) :: V_Tr) B.pre
  have hts : ∀ w ∈ V_Tr, w.before ([.ref t0, .int p1] : List Value).toArray s = true := fun w h => hts0 w (List.mem_cons_of_mem _ h)
  have hown : s.vm.findClass R_Tr = some m.cls := findClass_of_methodNamed B.named
  have hlocks := B.notSynchronized
  subst hsz
  have hD := hD0.self (sz := s.heap.size)
  generalize hAe : va_A [(t0, .inr (5, [.int (nI cn), .int lb, .ref a0, .ref a1, .ref a2, .ref a3, .ref a4, .ref a5, .ref a6, .ref a7, .ref a8, .ref a9, .ref a10, .ref a11, .ref a12, .ref a13, .ref a14, .int po])), (a2, .inl (k2, tl, .inl g2))] s.heap.size = A at hD ⊢
  have hA : ∀ q : Nat, s.heap.size ≤ q → A q := fun q h => by rw [← hAe]; exact Or.inr h
  have hS : va_S A s.heap s.heap [] := va_S.rf
  have hP : va_P (dC, dI) classes [(t0, .inr (5, [.int (nI cn), .int lb, .ref a0, .ref a1, .ref a2, .ref a3, .ref a4, .ref a5, .ref a6, .ref a7, .ref a8, .ref a9, .ref a10, .ref a11, .ref a12, .ref a13, .ref a14, .int po])), (a2, .inl (k2, tl, .inl g2))] s.heap := hP
  have hK : va_K (dC, dI) classes [(k2, .int)] s := hK
  have hl := lv_entry ([.ref t0, .int p1]) (n := 2) (Nat.le_of_ble_eq_true rfl)
  rw [lg_entry_eq]
  generalize (lg_sl ([.ref t0, .int p1]) ++ List.replicate (2 - (lg_sl ([.ref t0, .int p1])).length) Slot.unset).toArray = ls at hl ⊢
  have hl : lv_has ls 2 [(0, .ref t0), (1, .int p1)] := hl
  refine lv_aload_n hx hb d_Tr_sizeOf_0 rfl (lv_at hl 0 rfl) ?_
  refine lv_iload_n hx hb d_Tr_sizeOf_1 rfl (lv_at hl 1 rfl) ?_
  have hPc := hP.sub (ws' := [(t0, .inr (5, [.int (nI cn), .int lb, .ref a0, .ref a1, .ref a2, .ref a3, .ref a4, .ref a5, .ref a6, .ref a7, .ref a8, .ref a9, .ref a10, .ref a11, .ref a12, .ref a13, .ref a14, .int po]))]) [0] rfl
  have hDc := hD.sub (ws' := [(t0, .inr (5, [.int (nI cn), .int lb, .ref a0, .ref a1, .ref a2, .ref a3, .ref a4, .ref a5, .ref a6, .ref a7, .ref a8, .ref a9, .ref a10, .ref a11, .ref a12, .ref a13, .ref a14, .int po]))]) [0] (by decide) rfl
  have hKc := hK.sub (tys' := []) [] rfl
  have hFc := va_free (wc := [(t0, .inr (5, [.int (nI cn), .int lb, .ref a0, .ref a1, .ref a2, .ref a3, .ref a4, .ref a5, .ref a6, .ref a7, .ref a8, .ref a9, .ref a10, .ref a11, .ref a12, .ref a13, .ref a14, .int po]))]) hD hS hA [0] rfl
  refine va_calli (va_runV (As := [.int p1]) (rest := []) ⟨hx, hb, hml, hown, hts⟩ (c_Tr_has l dC dI t0 s.heap.size a0 a1 a2 a3 a4 a5 a6 a7 a8 a9 a10 a11 a12 a13 a14 cn tl lb po p1) (cwV 1 hts (gwV good_Tr (k_Tr_38) (k_Tr_39) (k_Tr_40) (k_Tr_0) (wcs (k_Tr_41) (fun _ h => h))) rfl rfl rfl (by decide +kernel) ⟨Nat.le_of_ble_eq_true rfl, Nat.le_of_ble_eq_true rfl⟩) (pv_of hPc hKc hDc (va_recv hKc hPc (ci := 5) (q0 := 0) rfl rfl)) rfl rfl hl.1 rfl (lv_room (Nat.le_of_ble_eq_true rfl)) d_Tr_sizeOf_2 ⟨by decide, by decide⟩) hS (fun q _ h => hFc q h) hFc (fun r_1 u t H1 locs ht hvm hw hB hz1 hk1 hS => ?_)
  have er_1 := hw
  obtain ⟨hP1, hK1, hD1⟩ := hB
  rw [ht] at hP1
  have hP1 : va_P (dC, dI) classes [(t0, .inr (5, [.int (nI cn), .int lb, .ref a0, .ref a1, .ref a2, .ref a3, .ref a4, .ref a5, .ref a6, .ref a7, .ref a8, .ref a9, .ref a10, .ref a11, .ref a12, .ref a13, .ref a14, .int po]))] H1 := hP1
  have hD1 : va_D _ [(t0, .inr (5, [.int (nI cn), .int lb, .ref a0, .ref a1, .ref a2, .ref a3, .ref a4, .ref a5, .ref a6, .ref a7, .ref a8, .ref a9, .ref a10, .ref a11, .ref a12, .ref a13, .ref a14, .int po]))] := hD1
  obtain ⟨hP, hD⟩ := va_join (wr := [(a2, .inl (k2, tl, .inl g2))]) (w1 := [(t0, .inr (5, [.int (nI cn), .int lb, .ref a0, .ref a1, .ref a2, .ref a3, .ref a4, .ref a5, .ref a6, .ref a7, .ref a8, .ref a9, .ref a10, .ref a11, .ref a12, .ref a13, .ref a14, .int po]))]) hP hD [0] [1] rfl rfl (by decide) (by decide) hk1 hFc hP1 hD1
  generalize H1 = H at hP hS ⊢
  have hP : va_P (dC, dI) classes [(a2, .inl (k2, tl, .inl g2)), (t0, .inr (5, [.int (nI cn), .int lb, .ref a0, .ref a1, .ref a2, .ref a3, .ref a4, .ref a5, .ref a6, .ref a7, .ref a8, .ref a9, .ref a10, .ref a11, .ref a12, .ref a13, .ref a14, .int po]))] H := hP
  have hD : va_D A [(a2, .inl (k2, tl, .inl g2)), (t0, .inr (5, [.int (nI cn), .int lb, .ref a0, .ref a1, .ref a2, .ref a3, .ref a4, .ref a5, .ref a6, .ref a7, .ref a8, .ref a9, .ref a10, .ref a11, .ref a12, .ref a13, .ref a14, .int po]))] := hD
  refine lv_if_eq (tgt := 17) hx hb d_Tr_sizeOf_5 (by decide) (fun c_2 => ?_) (fun c_2 => ?_)
  · refine lv_iconst (v := 0) hx hb d_Tr_sizeOf_17 (by decide) ?_
    have hP := hP.sub (ws' := [(t0, .inr (5, [.int (nI cn), .int lb, .ref a0, .ref a1, .ref a2, .ref a3, .ref a4, .ref a5, .ref a6, .ref a7, .ref a8, .ref a9, .ref a10, .ref a11, .ref a12, .ref a13, .ref a14, .int po])), (a2, .inl (k2, tl, .inl g2))]) [1, 0] rfl
    have hD := hD.sub (ws' := [(t0, .inr (5, [.int (nI cn), .int lb, .ref a0, .ref a1, .ref a2, .ref a3, .ref a4, .ref a5, .ref a6, .ref a7, .ref a8, .ref a9, .ref a10, .ref a11, .ref a12, .ref a13, .ref a14, .int po])), (a2, .inl (k2, tl, .inl g2))]) [1, 0] (by decide) rfl
    exact W.iret (v := 0) hx hb hr (fun t ht hW => ⟨⟨0, (), rfl, by rw [tr_size, ← er_1, if_pos c_2], by rw [ht]; exact hP, va_K.moved hW.alike hK, hD⟩, hS.F ht⟩) hS.2.2 d_Tr_sizeOf_18
  · refine lv_aload_n hx hb d_Tr_sizeOf_8 rfl (lv_at hl 0 rfl) ?_
    refine va_get (D := (dC, dI)) (ci := 5) (v := .ref a2) (C := R_Tr) (T := F_Tr) (N := 18) hx hb hts i_Tr hown hK hP 1 rfl rfl 4 (by decide) (hts _ (k_Tr_9)) (fun _ h9 => h9) rfl d_Tr_sizeOf_9 ?_
    refine lv_iload_n hx hb d_Tr_sizeOf_12 rfl (lv_at hl 1 rfl) ?_
    refine va_iald hx hb hK hP 0 0 rfl rfl (tr_in (by rw [← er_1]; exact c_2) hcn htl) d_Tr_sizeOf_13 ?_
    refine lv_goto (tgt := 18) hx hb d_Tr_sizeOf_14 (by decide) ?_
    have hP := hP.sub (ws' := [(t0, .inr (5, [.int (nI cn), .int lb, .ref a0, .ref a1, .ref a2, .ref a3, .ref a4, .ref a5, .ref a6, .ref a7, .ref a8, .ref a9, .ref a10, .ref a11, .ref a12, .ref a13, .ref a14, .int po])), (a2, .inl (k2, tl, .inl g2))]) [1, 0] rfl
    have hD := hD.sub (ws' := [(t0, .inr (5, [.int (nI cn), .int lb, .ref a0, .ref a1, .ref a2, .ref a3, .ref a4, .ref a5, .ref a6, .ref a7, .ref a8, .ref a9, .ref a10, .ref a11, .ref a12, .ref a13, .ref a14, .int po])), (a2, .inl (k2, tl, .inl g2))]) [1, 0] (by decide) rfl
    exact W.iret (v := (g2 p1.toNatClampNeg)) hx hb hr (fun t ht hW => ⟨⟨(g2 p1.toNatClampNeg), (), rfl, by rw [tr_size, ← er_1, if_neg c_2], by rw [ht]; exact hP, va_K.moved hW.alike hK, hD⟩, hS.F ht⟩) hS.2.2 d_Tr_sizeOf_18
def tr_first (cn : Nat) (g1 : Nat → Int32) (p1 : Int32) : Int32 := if (tr_has cn p1) = 0 then (0) else (g1 p1.toNatClampNeg)
set_option maxHeartbeats 4000000 in
set_option maxRecDepth 100000 in
theorem c_Tr_firstOf (l : Launch) (dC : Nat → ClassId) (dI : Nat → Nat → Nat) (t0 sz : Nat) (a0 a1 a2 a3 a4 a5 a6 a7 a8 a9 a10 a11 a12 a13 a14 : Nat) (cn tl : Nat) (lb po : Int32) (k1 : ClassId) (g1 : Nat → Int32) (hcn : cn ≤ tl) (htl : tl < 2 ^ 31) (p1 : Int32) : Met l y_Tr_firstOf (.code y_Tr_firstOf b_Tr_firstOf 2 (some .int) :: V_Tr) ({ frames := 1, cells := 0, slots := 0, locals := 21 }) (va_Pc [.ref t0, .int p1] (fun U => U.heap.size = sz ∧ at_ (dC, dI) (fun _ => True) [(t0, .inr (5, [.int (nI cn), .int lb, .ref a0, .ref a1, .ref a2, .ref a3, .ref a4, .ref a5, .ref a6, .ref a7, .ref a8, .ref a9, .ref a10, .ref a11, .ref a12, .ref a13, .ref a14, .int po])), (a1, .inl (k1, tl, .inl g1))] [(k1, .int)] U)) (va_Qi (fun (r : Int32) (u : Unit) => r = tr_first cn g1 p1) (fun (u : Unit) t => at_ (dC, dI) (va_A [(t0, .inr (5, [.int (nI cn), .int lb, .ref a0, .ref a1, .ref a2, .ref a3, .ref a4, .ref a5, .ref a6, .ref a7, .ref a8, .ref a9, .ref a10, .ref a11, .ref a12, .ref a13, .ref a14, .int po])), (a1, .inl (k1, tl, .inl g1))] sz) [(t0, .inr (5, [.int (nI cn), .int lb, .ref a0, .ref a1, .ref a2, .ref a3, .ref a4, .ref a5, .ref a6, .ref a7, .ref a8, .ref a9, .ref a10, .ref a11, .ref a12, .ref a13, .ref a14, .int po])), (a1, .inl (k1, tl, .inl g1))] [(k1, .int)] t) (va_A [(t0, .inr (5, [.int (nI cn), .int lb, .ref a0, .ref a1, .ref a2, .ref a3, .ref a4, .ref a5, .ref a6, .ref a7, .ref a8, .ref a9, .ref a10, .ref a11, .ref a12, .ref a13, .ref a14, .int po])), (a1, .inl (k1, tl, .inl g1))] sz)) 0 0 (va_A [(t0, .inr (5, [.int (nI cn), .int lb, .ref a0, .ref a1, .ref a2, .ref a3, .ref a4, .ref a5, .ref a6, .ref a7, .ref a8, .ref a9, .ref a10, .ref a11, .ref a12, .ref a13, .ref a14, .int po])), (a1, .inl (k1, tl, .inl g1))] sz) := by
  refine Met.ofW (cc := b_Tr_firstOf) (maxL := 2) (ret := (some .int)) (by decide) rfl ?_
  intro p e s m args below meth c s₁ B hml hv
  obtain ⟨rfl, hsz, hP, hK, hD0⟩ := hv
  have hx := B.exec
  have hb := B.bytes
  have hr := B.returns
  have hts0 := atoms_spec (ws := .code y_Tr_firstOf b_Tr_firstOf 2 (some .int) :: V_Tr) B.pre
  have hts : ∀ w ∈ V_Tr, w.before ([.ref t0, .int p1] : List Value).toArray s = true := fun w h => hts0 w (List.mem_cons_of_mem _ h)
  have hown : s.vm.findClass R_Tr = some m.cls := findClass_of_methodNamed B.named
  have hlocks := B.notSynchronized
  subst hsz
  have hD := hD0.self (sz := s.heap.size)
  generalize hAe : va_A [(t0, .inr (5, [.int (nI cn), .int lb, .ref a0, .ref a1, .ref a2, .ref a3, .ref a4, .ref a5, .ref a6, .ref a7, .ref a8, .ref a9, .ref a10, .ref a11, .ref a12, .ref a13, .ref a14, .int po])), (a1, .inl (k1, tl, .inl g1))] s.heap.size = A at hD ⊢
  have hA : ∀ q : Nat, s.heap.size ≤ q → A q := fun q h => by rw [← hAe]; exact Or.inr h
  have hS : va_S A s.heap s.heap [] := va_S.rf
  have hP : va_P (dC, dI) classes [(t0, .inr (5, [.int (nI cn), .int lb, .ref a0, .ref a1, .ref a2, .ref a3, .ref a4, .ref a5, .ref a6, .ref a7, .ref a8, .ref a9, .ref a10, .ref a11, .ref a12, .ref a13, .ref a14, .int po])), (a1, .inl (k1, tl, .inl g1))] s.heap := hP
  have hK : va_K (dC, dI) classes [(k1, .int)] s := hK
  have hl := lv_entry ([.ref t0, .int p1]) (n := 2) (Nat.le_of_ble_eq_true rfl)
  rw [lg_entry_eq]
  generalize (lg_sl ([.ref t0, .int p1]) ++ List.replicate (2 - (lg_sl ([.ref t0, .int p1])).length) Slot.unset).toArray = ls at hl ⊢
  have hl : lv_has ls 2 [(0, .ref t0), (1, .int p1)] := hl
  refine lv_aload_n hx hb d_Tr_firstOf_0 rfl (lv_at hl 0 rfl) ?_
  refine lv_iload_n hx hb d_Tr_firstOf_1 rfl (lv_at hl 1 rfl) ?_
  have hPc := hP.sub (ws' := [(t0, .inr (5, [.int (nI cn), .int lb, .ref a0, .ref a1, .ref a2, .ref a3, .ref a4, .ref a5, .ref a6, .ref a7, .ref a8, .ref a9, .ref a10, .ref a11, .ref a12, .ref a13, .ref a14, .int po]))]) [0] rfl
  have hDc := hD.sub (ws' := [(t0, .inr (5, [.int (nI cn), .int lb, .ref a0, .ref a1, .ref a2, .ref a3, .ref a4, .ref a5, .ref a6, .ref a7, .ref a8, .ref a9, .ref a10, .ref a11, .ref a12, .ref a13, .ref a14, .int po]))]) [0] (by decide) rfl
  have hKc := hK.sub (tys' := []) [] rfl
  have hFc := va_free (wc := [(t0, .inr (5, [.int (nI cn), .int lb, .ref a0, .ref a1, .ref a2, .ref a3, .ref a4, .ref a5, .ref a6, .ref a7, .ref a8, .ref a9, .ref a10, .ref a11, .ref a12, .ref a13, .ref a14, .int po]))]) hD hS hA [0] rfl
  refine va_calli (va_runV (As := [.int p1]) (rest := []) ⟨hx, hb, hml, hown, hts⟩ (c_Tr_has l dC dI t0 s.heap.size a0 a1 a2 a3 a4 a5 a6 a7 a8 a9 a10 a11 a12 a13 a14 cn tl lb po p1) (cwV 1 hts (gwV good_Tr (k_Tr_38) (k_Tr_39) (k_Tr_40) (k_Tr_0) (wcs (k_Tr_41) (fun _ h => h))) rfl rfl rfl (by decide +kernel) ⟨Nat.le_of_ble_eq_true rfl, Nat.le_of_ble_eq_true rfl⟩) (pv_of hPc hKc hDc (va_recv hKc hPc (ci := 5) (q0 := 0) rfl rfl)) rfl rfl hl.1 rfl (lv_room (Nat.le_of_ble_eq_true rfl)) d_Tr_firstOf_2 ⟨by decide, by decide⟩) hS (fun q _ h => hFc q h) hFc (fun r_1 u t H1 locs ht hvm hw hB hz1 hk1 hS => ?_)
  have er_1 := hw
  obtain ⟨hP1, hK1, hD1⟩ := hB
  rw [ht] at hP1
  have hP1 : va_P (dC, dI) classes [(t0, .inr (5, [.int (nI cn), .int lb, .ref a0, .ref a1, .ref a2, .ref a3, .ref a4, .ref a5, .ref a6, .ref a7, .ref a8, .ref a9, .ref a10, .ref a11, .ref a12, .ref a13, .ref a14, .int po]))] H1 := hP1
  have hD1 : va_D _ [(t0, .inr (5, [.int (nI cn), .int lb, .ref a0, .ref a1, .ref a2, .ref a3, .ref a4, .ref a5, .ref a6, .ref a7, .ref a8, .ref a9, .ref a10, .ref a11, .ref a12, .ref a13, .ref a14, .int po]))] := hD1
  obtain ⟨hP, hD⟩ := va_join (wr := [(a1, .inl (k1, tl, .inl g1))]) (w1 := [(t0, .inr (5, [.int (nI cn), .int lb, .ref a0, .ref a1, .ref a2, .ref a3, .ref a4, .ref a5, .ref a6, .ref a7, .ref a8, .ref a9, .ref a10, .ref a11, .ref a12, .ref a13, .ref a14, .int po]))]) hP hD [0] [1] rfl rfl (by decide) (by decide) hk1 hFc hP1 hD1
  generalize H1 = H at hP hS ⊢
  have hP : va_P (dC, dI) classes [(a1, .inl (k1, tl, .inl g1)), (t0, .inr (5, [.int (nI cn), .int lb, .ref a0, .ref a1, .ref a2, .ref a3, .ref a4, .ref a5, .ref a6, .ref a7, .ref a8, .ref a9, .ref a10, .ref a11, .ref a12, .ref a13, .ref a14, .int po]))] H := hP
  have hD : va_D A [(a1, .inl (k1, tl, .inl g1)), (t0, .inr (5, [.int (nI cn), .int lb, .ref a0, .ref a1, .ref a2, .ref a3, .ref a4, .ref a5, .ref a6, .ref a7, .ref a8, .ref a9, .ref a10, .ref a11, .ref a12, .ref a13, .ref a14, .int po]))] := hD
  refine lv_if_eq (tgt := 17) hx hb d_Tr_firstOf_5 (by decide) (fun c_2 => ?_) (fun c_2 => ?_)
  · refine lv_iconst (v := 0) hx hb d_Tr_firstOf_17 (by decide) ?_
    have hP := hP.sub (ws' := [(t0, .inr (5, [.int (nI cn), .int lb, .ref a0, .ref a1, .ref a2, .ref a3, .ref a4, .ref a5, .ref a6, .ref a7, .ref a8, .ref a9, .ref a10, .ref a11, .ref a12, .ref a13, .ref a14, .int po])), (a1, .inl (k1, tl, .inl g1))]) [1, 0] rfl
    have hD := hD.sub (ws' := [(t0, .inr (5, [.int (nI cn), .int lb, .ref a0, .ref a1, .ref a2, .ref a3, .ref a4, .ref a5, .ref a6, .ref a7, .ref a8, .ref a9, .ref a10, .ref a11, .ref a12, .ref a13, .ref a14, .int po])), (a1, .inl (k1, tl, .inl g1))]) [1, 0] (by decide) rfl
    exact W.iret (v := 0) hx hb hr (fun t ht hW => ⟨⟨0, (), rfl, by rw [tr_first, ← er_1, if_pos c_2], by rw [ht]; exact hP, va_K.moved hW.alike hK, hD⟩, hS.F ht⟩) hS.2.2 d_Tr_firstOf_18
  · refine lv_aload_n hx hb d_Tr_firstOf_8 rfl (lv_at hl 0 rfl) ?_
    refine va_get (D := (dC, dI)) (ci := 5) (v := .ref a1) (C := R_Tr) (T := F_Tr) (N := 18) hx hb hts i_Tr hown hK hP 1 rfl rfl 3 (by decide) (hts _ (k_Tr_8)) (fun _ h9 => h9) rfl d_Tr_firstOf_9 ?_
    refine lv_iload_n hx hb d_Tr_firstOf_12 rfl (lv_at hl 1 rfl) ?_
    refine va_iald hx hb hK hP 0 0 rfl rfl (tr_in (by rw [← er_1]; exact c_2) hcn htl) d_Tr_firstOf_13 ?_
    refine lv_goto (tgt := 18) hx hb d_Tr_firstOf_14 (by decide) ?_
    have hP := hP.sub (ws' := [(t0, .inr (5, [.int (nI cn), .int lb, .ref a0, .ref a1, .ref a2, .ref a3, .ref a4, .ref a5, .ref a6, .ref a7, .ref a8, .ref a9, .ref a10, .ref a11, .ref a12, .ref a13, .ref a14, .int po])), (a1, .inl (k1, tl, .inl g1))]) [1, 0] rfl
    have hD := hD.sub (ws' := [(t0, .inr (5, [.int (nI cn), .int lb, .ref a0, .ref a1, .ref a2, .ref a3, .ref a4, .ref a5, .ref a6, .ref a7, .ref a8, .ref a9, .ref a10, .ref a11, .ref a12, .ref a13, .ref a14, .int po])), (a1, .inl (k1, tl, .inl g1))]) [1, 0] (by decide) rfl
    exact W.iret (v := (g1 p1.toNatClampNeg)) hx hb hr (fun t ht hW => ⟨⟨(g1 p1.toNatClampNeg), (), rfl, by rw [tr_first, ← er_1, if_neg c_2], by rw [ht]; exact hP, va_K.moved hW.alike hK, hD⟩, hS.F ht⟩) hS.2.2 d_Tr_firstOf_18
def tr_nsize (cn : Nat) (g11 : Nat → Int32) (p1 : Int32) : Int32 := if (tr_has cn p1) = 0 then (0) else (g11 p1.toNatClampNeg)
set_option maxHeartbeats 4000000 in
set_option maxRecDepth 100000 in
theorem c_Tr_nameSize (l : Launch) (dC : Nat → ClassId) (dI : Nat → Nat → Nat) (t0 sz : Nat) (a0 a1 a2 a3 a4 a5 a6 a7 a8 a9 a10 a11 a12 a13 a14 : Nat) (cn tl : Nat) (lb po : Int32) (k11 : ClassId) (g11 : Nat → Int32) (hcn : cn ≤ tl) (htl : tl < 2 ^ 31) (p1 : Int32) : Met l y_Tr_nameSize (.code y_Tr_nameSize b_Tr_nameSize 2 (some .int) :: V_Tr) ({ frames := 1, cells := 0, slots := 0, locals := 21 }) (va_Pc [.ref t0, .int p1] (fun U => U.heap.size = sz ∧ at_ (dC, dI) (fun _ => True) [(t0, .inr (5, [.int (nI cn), .int lb, .ref a0, .ref a1, .ref a2, .ref a3, .ref a4, .ref a5, .ref a6, .ref a7, .ref a8, .ref a9, .ref a10, .ref a11, .ref a12, .ref a13, .ref a14, .int po])), (a11, .inl (k11, tl, .inl g11))] [(k11, .int)] U)) (va_Qi (fun (r : Int32) (u : Unit) => r = tr_nsize cn g11 p1) (fun (u : Unit) t => at_ (dC, dI) (va_A [(t0, .inr (5, [.int (nI cn), .int lb, .ref a0, .ref a1, .ref a2, .ref a3, .ref a4, .ref a5, .ref a6, .ref a7, .ref a8, .ref a9, .ref a10, .ref a11, .ref a12, .ref a13, .ref a14, .int po])), (a11, .inl (k11, tl, .inl g11))] sz) [(t0, .inr (5, [.int (nI cn), .int lb, .ref a0, .ref a1, .ref a2, .ref a3, .ref a4, .ref a5, .ref a6, .ref a7, .ref a8, .ref a9, .ref a10, .ref a11, .ref a12, .ref a13, .ref a14, .int po])), (a11, .inl (k11, tl, .inl g11))] [(k11, .int)] t) (va_A [(t0, .inr (5, [.int (nI cn), .int lb, .ref a0, .ref a1, .ref a2, .ref a3, .ref a4, .ref a5, .ref a6, .ref a7, .ref a8, .ref a9, .ref a10, .ref a11, .ref a12, .ref a13, .ref a14, .int po])), (a11, .inl (k11, tl, .inl g11))] sz)) 0 0 (va_A [(t0, .inr (5, [.int (nI cn), .int lb, .ref a0, .ref a1, .ref a2, .ref a3, .ref a4, .ref a5, .ref a6, .ref a7, .ref a8, .ref a9, .ref a10, .ref a11, .ref a12, .ref a13, .ref a14, .int po])), (a11, .inl (k11, tl, .inl g11))] sz) := by
  refine Met.ofW (cc := b_Tr_nameSize) (maxL := 2) (ret := (some .int)) (by decide) rfl ?_
  intro p e s m args below meth c s₁ B hml hv
  obtain ⟨rfl, hsz, hP, hK, hD0⟩ := hv
  have hx := B.exec
  have hb := B.bytes
  have hr := B.returns
  have hts0 := atoms_spec (ws := .code y_Tr_nameSize b_Tr_nameSize 2 (some .int) :: V_Tr) B.pre
  have hts : ∀ w ∈ V_Tr, w.before ([.ref t0, .int p1] : List Value).toArray s = true := fun w h => hts0 w (List.mem_cons_of_mem _ h)
  have hown : s.vm.findClass R_Tr = some m.cls := findClass_of_methodNamed B.named
  have hlocks := B.notSynchronized
  subst hsz
  have hD := hD0.self (sz := s.heap.size)
  generalize hAe : va_A [(t0, .inr (5, [.int (nI cn), .int lb, .ref a0, .ref a1, .ref a2, .ref a3, .ref a4, .ref a5, .ref a6, .ref a7, .ref a8, .ref a9, .ref a10, .ref a11, .ref a12, .ref a13, .ref a14, .int po])), (a11, .inl (k11, tl, .inl g11))] s.heap.size = A at hD ⊢
  have hA : ∀ q : Nat, s.heap.size ≤ q → A q := fun q h => by rw [← hAe]; exact Or.inr h
  have hS : va_S A s.heap s.heap [] := va_S.rf
  have hP : va_P (dC, dI) classes [(t0, .inr (5, [.int (nI cn), .int lb, .ref a0, .ref a1, .ref a2, .ref a3, .ref a4, .ref a5, .ref a6, .ref a7, .ref a8, .ref a9, .ref a10, .ref a11, .ref a12, .ref a13, .ref a14, .int po])), (a11, .inl (k11, tl, .inl g11))] s.heap := hP
  have hK : va_K (dC, dI) classes [(k11, .int)] s := hK
  have hl := lv_entry ([.ref t0, .int p1]) (n := 2) (Nat.le_of_ble_eq_true rfl)
  rw [lg_entry_eq]
  generalize (lg_sl ([.ref t0, .int p1]) ++ List.replicate (2 - (lg_sl ([.ref t0, .int p1])).length) Slot.unset).toArray = ls at hl ⊢
  have hl : lv_has ls 2 [(0, .ref t0), (1, .int p1)] := hl
  refine lv_aload_n hx hb d_Tr_nameSize_0 rfl (lv_at hl 0 rfl) ?_
  refine lv_iload_n hx hb d_Tr_nameSize_1 rfl (lv_at hl 1 rfl) ?_
  have hPc := hP.sub (ws' := [(t0, .inr (5, [.int (nI cn), .int lb, .ref a0, .ref a1, .ref a2, .ref a3, .ref a4, .ref a5, .ref a6, .ref a7, .ref a8, .ref a9, .ref a10, .ref a11, .ref a12, .ref a13, .ref a14, .int po]))]) [0] rfl
  have hDc := hD.sub (ws' := [(t0, .inr (5, [.int (nI cn), .int lb, .ref a0, .ref a1, .ref a2, .ref a3, .ref a4, .ref a5, .ref a6, .ref a7, .ref a8, .ref a9, .ref a10, .ref a11, .ref a12, .ref a13, .ref a14, .int po]))]) [0] (by decide) rfl
  have hKc := hK.sub (tys' := []) [] rfl
  have hFc := va_free (wc := [(t0, .inr (5, [.int (nI cn), .int lb, .ref a0, .ref a1, .ref a2, .ref a3, .ref a4, .ref a5, .ref a6, .ref a7, .ref a8, .ref a9, .ref a10, .ref a11, .ref a12, .ref a13, .ref a14, .int po]))]) hD hS hA [0] rfl
  refine va_calli (va_runV (As := [.int p1]) (rest := []) ⟨hx, hb, hml, hown, hts⟩ (c_Tr_has l dC dI t0 s.heap.size a0 a1 a2 a3 a4 a5 a6 a7 a8 a9 a10 a11 a12 a13 a14 cn tl lb po p1) (cwV 1 hts (gwV good_Tr (k_Tr_38) (k_Tr_39) (k_Tr_40) (k_Tr_0) (wcs (k_Tr_41) (fun _ h => h))) rfl rfl rfl (by decide +kernel) ⟨Nat.le_of_ble_eq_true rfl, Nat.le_of_ble_eq_true rfl⟩) (pv_of hPc hKc hDc (va_recv hKc hPc (ci := 5) (q0 := 0) rfl rfl)) rfl rfl hl.1 rfl (lv_room (Nat.le_of_ble_eq_true rfl)) d_Tr_nameSize_2 ⟨by decide, by decide⟩) hS (fun q _ h => hFc q h) hFc (fun r_1 u t H1 locs ht hvm hw hB hz1 hk1 hS => ?_)
  have er_1 := hw
  obtain ⟨hP1, hK1, hD1⟩ := hB
  rw [ht] at hP1
  have hP1 : va_P (dC, dI) classes [(t0, .inr (5, [.int (nI cn), .int lb, .ref a0, .ref a1, .ref a2, .ref a3, .ref a4, .ref a5, .ref a6, .ref a7, .ref a8, .ref a9, .ref a10, .ref a11, .ref a12, .ref a13, .ref a14, .int po]))] H1 := hP1
  have hD1 : va_D _ [(t0, .inr (5, [.int (nI cn), .int lb, .ref a0, .ref a1, .ref a2, .ref a3, .ref a4, .ref a5, .ref a6, .ref a7, .ref a8, .ref a9, .ref a10, .ref a11, .ref a12, .ref a13, .ref a14, .int po]))] := hD1
  obtain ⟨hP, hD⟩ := va_join (wr := [(a11, .inl (k11, tl, .inl g11))]) (w1 := [(t0, .inr (5, [.int (nI cn), .int lb, .ref a0, .ref a1, .ref a2, .ref a3, .ref a4, .ref a5, .ref a6, .ref a7, .ref a8, .ref a9, .ref a10, .ref a11, .ref a12, .ref a13, .ref a14, .int po]))]) hP hD [0] [1] rfl rfl (by decide) (by decide) hk1 hFc hP1 hD1
  generalize H1 = H at hP hS ⊢
  have hP : va_P (dC, dI) classes [(a11, .inl (k11, tl, .inl g11)), (t0, .inr (5, [.int (nI cn), .int lb, .ref a0, .ref a1, .ref a2, .ref a3, .ref a4, .ref a5, .ref a6, .ref a7, .ref a8, .ref a9, .ref a10, .ref a11, .ref a12, .ref a13, .ref a14, .int po]))] H := hP
  have hD : va_D A [(a11, .inl (k11, tl, .inl g11)), (t0, .inr (5, [.int (nI cn), .int lb, .ref a0, .ref a1, .ref a2, .ref a3, .ref a4, .ref a5, .ref a6, .ref a7, .ref a8, .ref a9, .ref a10, .ref a11, .ref a12, .ref a13, .ref a14, .int po]))] := hD
  refine lv_if_eq (tgt := 17) hx hb d_Tr_nameSize_5 (by decide) (fun c_2 => ?_) (fun c_2 => ?_)
  · refine lv_iconst (v := 0) hx hb d_Tr_nameSize_17 (by decide) ?_
    have hP := hP.sub (ws' := [(t0, .inr (5, [.int (nI cn), .int lb, .ref a0, .ref a1, .ref a2, .ref a3, .ref a4, .ref a5, .ref a6, .ref a7, .ref a8, .ref a9, .ref a10, .ref a11, .ref a12, .ref a13, .ref a14, .int po])), (a11, .inl (k11, tl, .inl g11))]) [1, 0] rfl
    have hD := hD.sub (ws' := [(t0, .inr (5, [.int (nI cn), .int lb, .ref a0, .ref a1, .ref a2, .ref a3, .ref a4, .ref a5, .ref a6, .ref a7, .ref a8, .ref a9, .ref a10, .ref a11, .ref a12, .ref a13, .ref a14, .int po])), (a11, .inl (k11, tl, .inl g11))]) [1, 0] (by decide) rfl
    exact W.iret (v := 0) hx hb hr (fun t ht hW => ⟨⟨0, (), rfl, by rw [tr_nsize, ← er_1, if_pos c_2], by rw [ht]; exact hP, va_K.moved hW.alike hK, hD⟩, hS.F ht⟩) hS.2.2 d_Tr_nameSize_18
  · refine lv_aload_n hx hb d_Tr_nameSize_8 rfl (lv_at hl 0 rfl) ?_
    refine va_get (D := (dC, dI)) (ci := 5) (v := .ref a11) (C := R_Tr) (T := F_Tr) (N := 18) hx hb hts i_Tr hown hK hP 1 rfl rfl 13 (by decide) (hts _ (k_Tr_18)) (fun _ h9 => h9) rfl d_Tr_nameSize_9 ?_
    refine lv_iload_n hx hb d_Tr_nameSize_12 rfl (lv_at hl 1 rfl) ?_
    refine va_iald hx hb hK hP 0 0 rfl rfl (tr_in (by rw [← er_1]; exact c_2) hcn htl) d_Tr_nameSize_13 ?_
    refine lv_goto (tgt := 18) hx hb d_Tr_nameSize_14 (by decide) ?_
    have hP := hP.sub (ws' := [(t0, .inr (5, [.int (nI cn), .int lb, .ref a0, .ref a1, .ref a2, .ref a3, .ref a4, .ref a5, .ref a6, .ref a7, .ref a8, .ref a9, .ref a10, .ref a11, .ref a12, .ref a13, .ref a14, .int po])), (a11, .inl (k11, tl, .inl g11))]) [1, 0] rfl
    have hD := hD.sub (ws' := [(t0, .inr (5, [.int (nI cn), .int lb, .ref a0, .ref a1, .ref a2, .ref a3, .ref a4, .ref a5, .ref a6, .ref a7, .ref a8, .ref a9, .ref a10, .ref a11, .ref a12, .ref a13, .ref a14, .int po])), (a11, .inl (k11, tl, .inl g11))]) [1, 0] (by decide) rfl
    exact W.iret (v := (g11 p1.toNatClampNeg)) hx hb hr (fun t ht hW => ⟨⟨(g11 p1.toNatClampNeg), (), rfl, by rw [tr_nsize, ← er_1, if_neg c_2], by rw [ht]; exact hP, va_K.moved hW.alike hK, hD⟩, hS.F ht⟩) hS.2.2 d_Tr_nameSize_18
def tr_kid (cn : Nat) (g7 : Nat → Int32) (p1 p2 : Int32) : Int32 := if (tr_has cn p1) = 0 then (0) else ((g7 p1.toNatClampNeg) + p2)
set_option maxHeartbeats 4000000 in
set_option maxRecDepth 100000 in
theorem c_Tr_kid (l : Launch) (dC : Nat → ClassId) (dI : Nat → Nat → Nat) (t0 sz : Nat) (a0 a1 a2 a3 a4 a5 a6 a7 a8 a9 a10 a11 a12 a13 a14 : Nat) (cn tl : Nat) (lb po : Int32) (k7 : ClassId) (g7 : Nat → Int32) (hcn : cn ≤ tl) (htl : tl < 2 ^ 31) (p1 p2 : Int32) : Met l y_Tr_kid (.code y_Tr_kid b_Tr_kid 3 (some .int) :: V_Tr) ({ frames := 1, cells := 0, slots := 0, locals := 21 }) (va_Pc [.ref t0, .int p1, .int p2] (fun U => U.heap.size = sz ∧ at_ (dC, dI) (fun _ => True) [(t0, .inr (5, [.int (nI cn), .int lb, .ref a0, .ref a1, .ref a2, .ref a3, .ref a4, .ref a5, .ref a6, .ref a7, .ref a8, .ref a9, .ref a10, .ref a11, .ref a12, .ref a13, .ref a14, .int po])), (a7, .inl (k7, tl, .inl g7))] [(k7, .int)] U)) (va_Qi (fun (r : Int32) (u : Unit) => r = tr_kid cn g7 p1 p2) (fun (u : Unit) t => at_ (dC, dI) (va_A [(t0, .inr (5, [.int (nI cn), .int lb, .ref a0, .ref a1, .ref a2, .ref a3, .ref a4, .ref a5, .ref a6, .ref a7, .ref a8, .ref a9, .ref a10, .ref a11, .ref a12, .ref a13, .ref a14, .int po])), (a7, .inl (k7, tl, .inl g7))] sz) [(t0, .inr (5, [.int (nI cn), .int lb, .ref a0, .ref a1, .ref a2, .ref a3, .ref a4, .ref a5, .ref a6, .ref a7, .ref a8, .ref a9, .ref a10, .ref a11, .ref a12, .ref a13, .ref a14, .int po])), (a7, .inl (k7, tl, .inl g7))] [(k7, .int)] t) (va_A [(t0, .inr (5, [.int (nI cn), .int lb, .ref a0, .ref a1, .ref a2, .ref a3, .ref a4, .ref a5, .ref a6, .ref a7, .ref a8, .ref a9, .ref a10, .ref a11, .ref a12, .ref a13, .ref a14, .int po])), (a7, .inl (k7, tl, .inl g7))] sz)) 0 0 (va_A [(t0, .inr (5, [.int (nI cn), .int lb, .ref a0, .ref a1, .ref a2, .ref a3, .ref a4, .ref a5, .ref a6, .ref a7, .ref a8, .ref a9, .ref a10, .ref a11, .ref a12, .ref a13, .ref a14, .int po])), (a7, .inl (k7, tl, .inl g7))] sz) := by
  refine Met.ofW (cc := b_Tr_kid) (maxL := 3) (ret := (some .int)) (by decide) rfl ?_
  intro p e s m args below meth c s₁ B hml hv
  obtain ⟨rfl, hsz, hP, hK, hD0⟩ := hv
  have hx := B.exec
  have hb := B.bytes
  have hr := B.returns
  have hts0 := atoms_spec (ws := .code y_Tr_kid b_Tr_kid 3 (some .int) :: V_Tr) B.pre
  have hts : ∀ w ∈ V_Tr, w.before ([.ref t0, .int p1, .int p2] : List Value).toArray s = true := fun w h => hts0 w (List.mem_cons_of_mem _ h)
  have hown : s.vm.findClass R_Tr = some m.cls := findClass_of_methodNamed B.named
  have hlocks := B.notSynchronized
  subst hsz
  have hD := hD0.self (sz := s.heap.size)
  generalize hAe : va_A [(t0, .inr (5, [.int (nI cn), .int lb, .ref a0, .ref a1, .ref a2, .ref a3, .ref a4, .ref a5, .ref a6, .ref a7, .ref a8, .ref a9, .ref a10, .ref a11, .ref a12, .ref a13, .ref a14, .int po])), (a7, .inl (k7, tl, .inl g7))] s.heap.size = A at hD ⊢
  have hA : ∀ q : Nat, s.heap.size ≤ q → A q := fun q h => by rw [← hAe]; exact Or.inr h
  have hS : va_S A s.heap s.heap [] := va_S.rf
  have hP : va_P (dC, dI) classes [(t0, .inr (5, [.int (nI cn), .int lb, .ref a0, .ref a1, .ref a2, .ref a3, .ref a4, .ref a5, .ref a6, .ref a7, .ref a8, .ref a9, .ref a10, .ref a11, .ref a12, .ref a13, .ref a14, .int po])), (a7, .inl (k7, tl, .inl g7))] s.heap := hP
  have hK : va_K (dC, dI) classes [(k7, .int)] s := hK
  have hl := lv_entry ([.ref t0, .int p1, .int p2]) (n := 3) (Nat.le_of_ble_eq_true rfl)
  rw [lg_entry_eq]
  generalize (lg_sl ([.ref t0, .int p1, .int p2]) ++ List.replicate (3 - (lg_sl ([.ref t0, .int p1, .int p2])).length) Slot.unset).toArray = ls at hl ⊢
  have hl : lv_has ls 3 [(0, .ref t0), (1, .int p1), (2, .int p2)] := hl
  refine lv_aload_n hx hb d_Tr_kid_0 rfl (lv_at hl 0 rfl) ?_
  refine lv_iload_n hx hb d_Tr_kid_1 rfl (lv_at hl 1 rfl) ?_
  have hPc := hP.sub (ws' := [(t0, .inr (5, [.int (nI cn), .int lb, .ref a0, .ref a1, .ref a2, .ref a3, .ref a4, .ref a5, .ref a6, .ref a7, .ref a8, .ref a9, .ref a10, .ref a11, .ref a12, .ref a13, .ref a14, .int po]))]) [0] rfl
  have hDc := hD.sub (ws' := [(t0, .inr (5, [.int (nI cn), .int lb, .ref a0, .ref a1, .ref a2, .ref a3, .ref a4, .ref a5, .ref a6, .ref a7, .ref a8, .ref a9, .ref a10, .ref a11, .ref a12, .ref a13, .ref a14, .int po]))]) [0] (by decide) rfl
  have hKc := hK.sub (tys' := []) [] rfl
  have hFc := va_free (wc := [(t0, .inr (5, [.int (nI cn), .int lb, .ref a0, .ref a1, .ref a2, .ref a3, .ref a4, .ref a5, .ref a6, .ref a7, .ref a8, .ref a9, .ref a10, .ref a11, .ref a12, .ref a13, .ref a14, .int po]))]) hD hS hA [0] rfl
  refine va_calli (va_runV (As := [.int p1]) (rest := []) ⟨hx, hb, hml, hown, hts⟩ (c_Tr_has l dC dI t0 s.heap.size a0 a1 a2 a3 a4 a5 a6 a7 a8 a9 a10 a11 a12 a13 a14 cn tl lb po p1) (cwV 1 hts (gwV good_Tr (k_Tr_38) (k_Tr_39) (k_Tr_40) (k_Tr_0) (wcs (k_Tr_41) (fun _ h => h))) rfl rfl rfl (by decide +kernel) ⟨Nat.le_of_ble_eq_true rfl, Nat.le_of_ble_eq_true rfl⟩) (pv_of hPc hKc hDc (va_recv hKc hPc (ci := 5) (q0 := 0) rfl rfl)) rfl rfl hl.1 rfl (lv_room (Nat.le_of_ble_eq_true rfl)) d_Tr_kid_2 ⟨by decide, by decide⟩) hS (fun q _ h => hFc q h) hFc (fun r_1 u t H1 locs ht hvm hw hB hz1 hk1 hS => ?_)
  have er_1 := hw
  obtain ⟨hP1, hK1, hD1⟩ := hB
  rw [ht] at hP1
  have hP1 : va_P (dC, dI) classes [(t0, .inr (5, [.int (nI cn), .int lb, .ref a0, .ref a1, .ref a2, .ref a3, .ref a4, .ref a5, .ref a6, .ref a7, .ref a8, .ref a9, .ref a10, .ref a11, .ref a12, .ref a13, .ref a14, .int po]))] H1 := hP1
  have hD1 : va_D _ [(t0, .inr (5, [.int (nI cn), .int lb, .ref a0, .ref a1, .ref a2, .ref a3, .ref a4, .ref a5, .ref a6, .ref a7, .ref a8, .ref a9, .ref a10, .ref a11, .ref a12, .ref a13, .ref a14, .int po]))] := hD1
  obtain ⟨hP, hD⟩ := va_join (wr := [(a7, .inl (k7, tl, .inl g7))]) (w1 := [(t0, .inr (5, [.int (nI cn), .int lb, .ref a0, .ref a1, .ref a2, .ref a3, .ref a4, .ref a5, .ref a6, .ref a7, .ref a8, .ref a9, .ref a10, .ref a11, .ref a12, .ref a13, .ref a14, .int po]))]) hP hD [0] [1] rfl rfl (by decide) (by decide) hk1 hFc hP1 hD1
  generalize H1 = H at hP hS ⊢
  have hP : va_P (dC, dI) classes [(a7, .inl (k7, tl, .inl g7)), (t0, .inr (5, [.int (nI cn), .int lb, .ref a0, .ref a1, .ref a2, .ref a3, .ref a4, .ref a5, .ref a6, .ref a7, .ref a8, .ref a9, .ref a10, .ref a11, .ref a12, .ref a13, .ref a14, .int po]))] H := hP
  have hD : va_D A [(a7, .inl (k7, tl, .inl g7)), (t0, .inr (5, [.int (nI cn), .int lb, .ref a0, .ref a1, .ref a2, .ref a3, .ref a4, .ref a5, .ref a6, .ref a7, .ref a8, .ref a9, .ref a10, .ref a11, .ref a12, .ref a13, .ref a14, .int po]))] := hD
  refine lv_if_eq (tgt := 19) hx hb d_Tr_kid_5 (by decide) (fun c_2 => ?_) (fun c_2 => ?_)
  · refine lv_iconst (v := 0) hx hb d_Tr_kid_19 (by decide) ?_
    have hP := hP.sub (ws' := [(t0, .inr (5, [.int (nI cn), .int lb, .ref a0, .ref a1, .ref a2, .ref a3, .ref a4, .ref a5, .ref a6, .ref a7, .ref a8, .ref a9, .ref a10, .ref a11, .ref a12, .ref a13, .ref a14, .int po])), (a7, .inl (k7, tl, .inl g7))]) [1, 0] rfl
    have hD := hD.sub (ws' := [(t0, .inr (5, [.int (nI cn), .int lb, .ref a0, .ref a1, .ref a2, .ref a3, .ref a4, .ref a5, .ref a6, .ref a7, .ref a8, .ref a9, .ref a10, .ref a11, .ref a12, .ref a13, .ref a14, .int po])), (a7, .inl (k7, tl, .inl g7))]) [1, 0] (by decide) rfl
    exact W.iret (v := 0) hx hb hr (fun t ht hW => ⟨⟨0, (), rfl, by rw [tr_kid, ← er_1, if_pos c_2], by rw [ht]; exact hP, va_K.moved hW.alike hK, hD⟩, hS.F ht⟩) hS.2.2 d_Tr_kid_20
  · refine lv_aload_n hx hb d_Tr_kid_8 rfl (lv_at hl 0 rfl) ?_
    refine va_get (D := (dC, dI)) (ci := 5) (v := .ref a7) (C := R_Tr) (T := F_Tr) (N := 18) hx hb hts i_Tr hown hK hP 1 rfl rfl 9 (by decide) (hts _ (k_Tr_14)) (fun _ h9 => h9) rfl d_Tr_kid_9 ?_
    refine lv_iload_n hx hb d_Tr_kid_12 rfl (lv_at hl 1 rfl) ?_
    refine va_iald hx hb hK hP 0 0 rfl rfl (tr_in (by rw [← er_1]; exact c_2) hcn htl) d_Tr_kid_13 ?_
    refine lv_iload_n hx hb d_Tr_kid_14 rfl (lv_at hl 2 rfl) ?_
    refine lv_iadd hx hb d_Tr_kid_15 ?_
    refine lv_goto (tgt := 20) hx hb d_Tr_kid_16 (by decide) ?_
    have hP := hP.sub (ws' := [(t0, .inr (5, [.int (nI cn), .int lb, .ref a0, .ref a1, .ref a2, .ref a3, .ref a4, .ref a5, .ref a6, .ref a7, .ref a8, .ref a9, .ref a10, .ref a11, .ref a12, .ref a13, .ref a14, .int po])), (a7, .inl (k7, tl, .inl g7))]) [1, 0] rfl
    have hD := hD.sub (ws' := [(t0, .inr (5, [.int (nI cn), .int lb, .ref a0, .ref a1, .ref a2, .ref a3, .ref a4, .ref a5, .ref a6, .ref a7, .ref a8, .ref a9, .ref a10, .ref a11, .ref a12, .ref a13, .ref a14, .int po])), (a7, .inl (k7, tl, .inl g7))]) [1, 0] (by decide) rfl
    exact W.iret (v := ((g7 p1.toNatClampNeg) + p2)) hx hb hr (fun t ht hW => ⟨⟨((g7 p1.toNatClampNeg) + p2), (), rfl, by rw [tr_kid, ← er_1, if_neg c_2], by rw [ht]; exact hP, va_K.moved hW.alike hK, hD⟩, hS.F ht⟩) hS.2.2 d_Tr_kid_20
