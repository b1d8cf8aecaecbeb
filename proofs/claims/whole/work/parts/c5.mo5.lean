set_option maxHeartbeats 4000000 in
set_option maxRecDepth 100000 in
theorem l_Mo_make (l : Launch) (dC : Nat → ClassId) (dI : Nat → Nat → Nat) {K : Nat} {M : MA} {E : (Nat → Prop) → State → Prop} (X : lx_X l dC dI K M E) (sz : Nat) {S S' : MS} {p0 : Int32} {r : Int32} (h : f_Mo_make K S p0 = some (r, S')) : Met l y_Mo_make (.code y_Mo_make b_Mo_make 18 (some .int) :: V_Mq) ({ frames := 13, cells := 0, slots := 0, locals := 359 }) (va_Pc [.ref M.o, .int p0] (fun U => U.heap.size = sz ∧ at_ (dC, dI) (fun _ => True) (wM M S) (tM M) U ∧ E (va_A (wM M S) sz) U)) (va_Qi (fun (r_ : Int32) (u : Unit) => r_ = r) (fun (u : Unit) t => at_ (dC, dI) (va_A (wM M S) sz) (wM M S') (tM M) t) (va_A (wM M S) sz)) 0 0 (va_A (wM M S) sz) := by
  refine Met.ofW (cc := b_Mo_make) (maxL := 18) (ret := (some .int)) (by decide) rfl ?_
  intro p e s m args below meth c s₁ B hml hv
  obtain ⟨rfl, hsz, ⟨hP, hK, hD0⟩, hE⟩ := hv
  have hx := B.exec
  have hb := B.bytes
  have hr := B.returns
  have hts0 := atoms_spec (ws := .code y_Mo_make b_Mo_make 18 (some .int) :: V_Mq) B.pre
  have hts : ∀ w ∈ V_Mq, w.before ([.ref M.o, .int p0] : List Value).toArray s = true := fun w h => hts0 w (List.mem_cons_of_mem _ h)
  have hown : s.vm.findClass R_Mo = some m.cls := findClass_of_methodNamed B.named
  subst hsz
  have hD := hD0.self (sz := s.heap.size)
  generalize hAe : va_A (wM M S) s.heap.size = A at hD hE ⊢
  have hA : ∀ q : Nat, s.heap.size ≤ q → A q := fun q h => by rw [← hAe]; exact Or.inr h
  have hS : va_S A s.heap s.heap [] := va_S.rf
  have hP : va_P (dC, dI) classes (wM M S) s.heap := hP
  have hK : va_K (dC, dI) classes (tM M) s := hK
  have hEw : ∀ (H : Heap) (locs : List Loc), va_S A s.heap H locs → ∀ U : State, U.heap = H → s.WarmedH U.vm → E A U := fun H locs hS U hU hW => X.kept A s U H locs hE hS hU hW
  have hl := lv_entry ([.ref M.o, .int p0]) (n := 18) (Nat.le_of_ble_eq_true rfl)
  rw [lg_entry_eq]
  generalize (lg_sl ([.ref M.o, .int p0]) ++ List.replicate (18 - (lg_sl ([.ref M.o, .int p0])).length) Slot.unset).toArray = ls at hl ⊢
  have hl : lv_has ls 18 [(0, .ref M.o), (1, .int p0)] := hl
  refine qabs (fun Q hQ => ?_)
  have hB_42 : ∀ (S : MS) (H : Heap) (locs : List Loc) (ls : Array Slot), f_Mo_make_42 K S = some (r, S') → va_P (dC, dI) classes (wM M S) H → va_D A (wM M S) → va_S A s.heap H locs → lv_has ls 18 [] → W p l e ({ frames := 13, cells := 0, slots := 0, locals := 359 }) s m ([.ref M.o, .int p0] : List Value).toArray below meth c H locs 0 0 Q (F0 m 42 ls []) := by
    intro S H locs ls h hP hD hS hl
    rw [f_Mo_make_42] at h
    refine lv_iconst (v := 0) hx hb d_Mo_make_42 (by decide) ?_
    rw [hQ]
    have e1 : (0 : Int32) = r := congrArg Prod.fst (Option.some.inj h)
    have e2 : S = S' := congrArg Prod.snd (Option.some.inj h)
    have hP := lx_newP e2.symm hP
    have hD := lx_newD e2.symm hD
    exact W.iret (v := 0) hx hb hr (fun t ht hW => ⟨⟨0, (), rfl, e1, by rw [ht]; exact hP, va_K.moved hW.alike hK, hD⟩, hS.F ht⟩) hS.2.2 d_Mo_make_43
  have hB_219 : ∀ (rec_173 : Int32 → Int32 → Int32 → Int32 → Int32 → Int32 → MS → Option (Int32 × MS)) (hr_173 : ∀ (y_1 : Int32) (y_6 : Int32) (y_7 : Int32) (y_8 : Int32) (y_9 : Int32) (y_10 : Int32) (S : MS) (H : Heap) (locs : List Loc) (ls : Array Slot), rec_173 y_1 y_6 y_7 y_8 y_9 y_10 S = some (r, S') → va_P (dC, dI) classes (wM M S) H → va_D A (wM M S) → va_S A s.heap H locs → lv_has ls 18 [(0, .ref M.o), (1, .int y_1), (6, .int y_6), (7, .int y_7), (8, .int y_8), (9, .int y_9), (10, .int y_10)] → W p l e ({ frames := 13, cells := 0, slots := 0, locals := 359 }) s m ([.ref M.o, .int p0] : List Value).toArray below meth c H locs 0 0 Q (F0 m 173 ls [])), ∀ (y_1 : Int32) (y_6 : Int32) (y_7 : Int32) (y_8 : Int32) (y_9 : Int32) (y_10 : Int32) (S : MS) (H : Heap) (locs : List Loc) (ls : Array Slot), f_Mo_make_219 K rec_173 y_1 y_6 y_7 y_8 y_9 y_10 S = some (r, S') → va_P (dC, dI) classes (wM M S) H → va_D A (wM M S) → va_S A s.heap H locs → lv_has ls 18 [(0, .ref M.o), (1, .int y_1), (6, .int y_6), (7, .int y_7), (8, .int y_8), (9, .int y_9), (10, .int y_10)] → W p l e ({ frames := 13, cells := 0, slots := 0, locals := 359 }) s m ([.ref M.o, .int p0] : List Value).toArray below meth c H locs 0 0 Q (F0 m 219 ls []) := by
    intro rec_173 hr_173 y_1 y_6 y_7 y_8 y_9 y_10 S H locs ls h hP hD hS hl
    rw [f_Mo_make_219] at h
    obtain ⟨x_37, ex_37, h⟩ := lf_lX h
    refine lv_iinc (v := x_37) (lv' := [(10, .int x_37), (0, .ref M.o), (1, .int y_1), (6, .int y_6), (7, .int y_7), (8, .int y_8), (9, .int y_9)]) hx hb d_Mo_make_219 hl (k := 6) rfl (by rw [ex_37]; rfl) (by decide) rfl (fun ls hl => ?_)
    refine lv_goto (tgt := 173) hx hb d_Mo_make_222 (by decide) ?_
    exact hr_173 y_1 y_6 y_7 y_8 y_9 x_37 S _ _ _ h hP hD hS (lv_sub hl [1, 2, 3, 4, 5, 6, 0] rfl)
  have hB_387 : ∀ (rec_374 : Int32 → Int32 → Int32 → Int32 → Int32 → Int32 → Int32 → MS → Option (Int32 × MS)) (hr_374 : ∀ (y_1 : Int32) (y_6 : Int32) (y_7 : Int32) (y_8 : Int32) (y_9 : Int32) (y_11 : Int32) (y_12 : Int32) (S : MS) (H : Heap) (locs : List Loc) (ls : Array Slot), rec_374 y_1 y_6 y_7 y_8 y_9 y_11 y_12 S = some (r, S') → va_P (dC, dI) classes (wM M S) H → va_D A (wM M S) → va_S A s.heap H locs → lv_has ls 18 [(0, .ref M.o), (1, .int y_1), (6, .int y_6), (7, .int y_7), (8, .int y_8), (9, .int y_9), (11, .int y_11), (12, .int y_12)] → W p l e ({ frames := 13, cells := 0, slots := 0, locals := 359 }) s m ([.ref M.o, .int p0] : List Value).toArray below meth c H locs 0 0 Q (F0 m 374 ls [])) (k : Nat), ∀ (y_1 : Int32) (y_6 : Int32) (y_7 : Int32) (y_8 : Int32) (y_9 : Int32) (y_11 : Int32) (y_12 : Int32) (y_13 : Int32) (S : MS) (H : Heap) (locs : List Loc) (ls : Array Slot), f_Mo_make_387 K rec_374 k y_1 y_6 y_7 y_8 y_9 y_11 y_12 y_13 S = some (r, S') → va_P (dC, dI) classes (wM M S) H → va_D A (wM M S) → va_S A s.heap H locs → lv_has ls 18 [(0, .ref M.o), (1, .int y_1), (6, .int y_6), (7, .int y_7), (8, .int y_8), (9, .int y_9), (11, .int y_11), (12, .int y_12), (13, .int y_13)] → W p l e ({ frames := 13, cells := 0, slots := 0, locals := 359 }) s m ([.ref M.o, .int p0] : List Value).toArray below meth c H locs 0 0 Q (F0 m 387 ls []) := by
    intro rec_374 hr_374 k
    induction k with
    | zero => intro y_1 y_6 y_7 y_8 y_9 y_11 y_12 y_13 S H locs ls h; exact lf_no h
    | succ k hr_387 =>
      intro y_1 y_6 y_7 y_8 y_9 y_11 y_12 y_13 S H locs ls h hP hD hS hl
      rw [f_Mo_make_387] at h
      refine lv_iload hx hb d_Mo_make_387 (lv_at hl 8 rfl) ?_
      refine lv_bipush (v := 32) hx hb d_Mo_make_389 (by decide) ?_
      refine lv_icmp_ge (tgt := 415) hx hb d_Mo_make_391 (by decide) (fun c_61 => ?_) (fun c_61 => ?_)
      · have h := lf_t h c_61
        obtain ⟨x_62, ex_62, h⟩ := lf_lX h
        refine lv_iinc (v := x_62) (lv' := [(12, .int x_62), (0, .ref M.o), (1, .int y_1), (6, .int y_6), (7, .int y_7), (8, .int y_8), (9, .int y_9), (11, .int y_11), (13, .int y_13)]) hx hb d_Mo_make_415 hl (k := 7) rfl (by rw [ex_62]; rfl) (by decide) rfl (fun ls hl => ?_)
        refine lv_goto (tgt := 374) hx hb d_Mo_make_418 (by decide) ?_
        exact hr_374 y_1 y_6 y_7 y_8 y_9 y_11 x_62 S _ _ _ h hP hD hS (lv_sub hl [1, 2, 3, 4, 5, 6, 7, 0] rfl)
      · have h := lf_f h c_61
        refine lv_aload_n hx hb d_Mo_make_394 rfl (lv_at hl 0 rfl) ?_
        refine va_get (D := (dC, dI)) (ci := 12) (v := .ref M.a_disk) (C := R_Mo) (T := F_Mo) (N := 66) hx hb hts (fun w h => u_Mq_Mo w (i_Mo w h)) hown hK hP 0 rfl rfl 1 (by decide) (hts _ (u_Mq_Mo _ k_Mo_8)) (fun _ h9 => h9) rfl d_Mo_make_395 ?_
        refine lv_aload_n hx hb d_Mo_make_398 rfl (lv_at hl 0 rfl) ?_
        refine lv_iload hx hb d_Mo_make_399 (lv_at hl 7 rfl) ?_
        obtain ⟨r_63, S_63, hc_63, h⟩ := lf_cE h
        have hFc := lx_free hD hS hA
        refine va_calli (va_runV (As := [.int y_12]) (rest := [.ref M.a_disk]) ⟨hx, hb, hml, hown, hts⟩ (l_Mo_slotAt l dC dI X _ hc_63) (cwV 1 hts (gwV good_Mq (u_Mq_Mo _ k_Mo_133) (u_Mq_Mo _ k_Mo_134) (u_Mq_Mo _ k_Mo_491) (u_Mq_Mo _ k_Mo_0) (wcs (u_Mq_Mo _ k_Mo_135) (fun _ h => h))) rfl rfl rfl (by decide +kernel) ⟨Nat.le_of_ble_eq_true rfl, Nat.le_of_ble_eq_true rfl⟩) (pv_ofE (X.same _) (fun U z1 z2 => X.mono _ _ U hFc (hEw _ _ hS U z1 z2)) hP hK hD (va_recv hK hP (ci := 12) (q0 := 0) rfl rfl)) rfl rfl hl.1 rfl (lv_room (Nat.le_of_ble_eq_true rfl)) d_Mo_make_401 ⟨by decide, by decide⟩) hS (fun q _ h => hFc q h) hFc (fun r_ u t H locs ht hvm hw hB hz1 hk1 hS => ?_)
        rw [hw]
        obtain ⟨hP, -, hD⟩ := hB
        rw [ht] at hP
        have hD := lx_dj hD hFc
        refine lv_iload hx hb d_Mo_make_404 (lv_at hl 8 rfl) ?_
        refine lv_iadd hx hb d_Mo_make_406 ?_
        refine lv_iconst (v := 0) hx hb d_Mo_make_407 (by decide) ?_
        obtain ⟨g_64, h⟩ := lf_gE h
        refine va_bast hx hb hK hP hD hS 1 0 rfl rfl g_64 d_Mo_make_408 (fun H locs hP hD hS => ?_)
        obtain ⟨S_65, eS_65, h⟩ := lf_lX h
        have hP := lx_newP eS_65 hP
        have hD := lx_newD eS_65 hD
        obtain ⟨x_66, ex_66, h⟩ := lf_lX h
        refine lv_iinc (v := x_66) (lv' := [(13, .int x_66), (0, .ref M.o), (1, .int y_1), (6, .int y_6), (7, .int y_7), (8, .int y_8), (9, .int y_9), (11, .int y_11), (12, .int y_12)]) hx hb d_Mo_make_409 hl (k := 8) rfl (by rw [ex_66]; rfl) (by decide) rfl (fun ls hl => ?_)
        refine lv_goto (tgt := 387) hx hb d_Mo_make_412 (by decide) ?_
        exact hr_387 y_1 y_6 y_7 y_8 y_9 y_11 y_12 x_66 S_65 _ _ _ h hP hD hS (lv_sub hl [1, 2, 3, 4, 5, 6, 7, 8, 0] rfl)
  have hB_513 : ∀ (rec_472 : Int32 → Int32 → Int32 → Int32 → Int32 → Int32 → Int32 → Int32 → MS → Option (Int32 × MS)) (hr_472 : ∀ (y_1 : Int32) (y_6 : Int32) (y_7 : Int32) (y_8 : Int32) (y_9 : Int32) (y_11 : Int32) (y_12 : Int32) (y_13 : Int32) (S : MS) (H : Heap) (locs : List Loc) (ls : Array Slot), rec_472 y_1 y_6 y_7 y_8 y_9 y_11 y_12 y_13 S = some (r, S') → va_P (dC, dI) classes (wM M S) H → va_D A (wM M S) → va_S A s.heap H locs → lv_has ls 18 [(0, .ref M.o), (1, .int y_1), (6, .int y_6), (7, .int y_7), (8, .int y_8), (9, .int y_9), (11, .int y_11), (12, .int y_12), (13, .int y_13)] → W p l e ({ frames := 13, cells := 0, slots := 0, locals := 359 }) s m ([.ref M.o, .int p0] : List Value).toArray below meth c H locs 0 0 Q (F0 m 472 ls [])), ∀ (y_1 : Int32) (y_6 : Int32) (y_7 : Int32) (y_8 : Int32) (y_9 : Int32) (y_11 : Int32) (y_12 : Int32) (y_13 : Int32) (z_1 : Int32) (z_2 : Int32) (z_3 : Int32) (S : MS) (H : Heap) (locs : List Loc) (ls : Array Slot), f_Mo_make_513 K rec_472 y_1 y_6 y_7 y_8 y_9 y_11 y_12 y_13 z_1 z_2 z_3 S = some (r, S') → va_P (dC, dI) classes (wM M S) H → va_D A (wM M S) → va_S A s.heap H locs → lv_has ls 18 [(0, .ref M.o), (1, .int y_1), (6, .int y_6), (7, .int y_7), (8, .int y_8), (9, .int y_9), (11, .int y_11), (12, .int y_12), (13, .int y_13)] → W p l e ({ frames := 13, cells := 0, slots := 0, locals := 359 }) s m ([.ref M.o, .int p0] : List Value).toArray below meth c H locs 0 0 Q (F0 m 513 ls [.int z_3, .int z_2, .int z_1, .ref M.o]) := by
    intro rec_472 hr_472 y_1 y_6 y_7 y_8 y_9 y_11 y_12 y_13 z_1 z_2 z_3 S H locs ls h hP hD hS hl
    rw [f_Mo_make_513] at h
    refine lv_aload_n hx hb d_Mo_make_513 rfl (lv_at hl 0 rfl) ?_
    refine lv_iload hx hb d_Mo_make_514 (lv_at hl 7 rfl) ?_
    obtain ⟨r_81, S_81, hc_81, h⟩ := lf_cE h
    have hFc := lx_free hD hS hA
    refine va_calli (va_runV (As := [.int y_12]) (rest := [.int z_3, .int z_2, .int z_1, .ref M.o]) ⟨hx, hb, hml, hown, hts⟩ (l_Mo_sumOf l dC dI X _ hc_81) (cwV 1 hts (gwV good_Mq (u_Mq_Mo _ k_Mo_171) (u_Mq_Mo _ k_Mo_172) (u_Mq_Mo _ k_Mo_499) (u_Mq_Mo _ k_Mo_0) (wcs (u_Mq_Mo _ k_Mo_173) (fun _ h => h))) rfl rfl rfl (by decide +kernel) ⟨Nat.le_of_ble_eq_true rfl, Nat.le_of_ble_eq_true rfl⟩) (pv_ofE (X.same _) (fun U z1 z2 => X.mono _ _ U hFc (hEw _ _ hS U z1 z2)) hP hK hD (va_recv hK hP (ci := 12) (q0 := 0) rfl rfl)) rfl rfl hl.1 rfl (lv_room (Nat.le_of_ble_eq_true rfl)) d_Mo_make_516 ⟨by decide, by decide⟩) hS (fun q _ h => hFc q h) hFc (fun r_ u t H locs ht hvm hw hB hz1 hk1 hS => ?_)
    rw [hw]
    obtain ⟨hP, -, hD⟩ := hB
    rw [ht] at hP
    have hD := lx_dj hD hFc
    obtain ⟨S_82, hc_82, h⟩ := lf_bE h
    have hFc := lx_free hD hS hA
    refine va_callv (va_runV (As := [.int z_1, .int z_2, .int z_3, .int r_81]) (rest := []) ⟨hx, hb, hml, hown, hts⟩ (l_Mo_layPart l dC dI X _ hc_82) (cwV 4 hts (gwV good_Mq (u_Mq_Mo _ k_Mo_334) (u_Mq_Mo _ k_Mo_335) (u_Mq_Mo _ k_Mo_522) (u_Mq_Mo _ k_Mo_0) (wcs (u_Mq_Mo _ k_Mo_336) (fun _ h => h))) rfl rfl rfl (by decide +kernel) ⟨Nat.le_of_ble_eq_true rfl, Nat.le_of_ble_eq_true rfl⟩) (pv_ofE (X.same _) (fun U z1 z2 => X.mono _ _ U hFc (hEw _ _ hS U z1 z2)) hP hK hD (va_recv hK hP (ci := 12) (q0 := 0) rfl rfl)) rfl rfl hl.1 rfl (lv_room (Nat.le_of_ble_eq_true rfl)) d_Mo_make_519 ⟨by decide, by decide⟩) hS (fun q _ h => hFc q h) hFc (fun u t H locs ht hvm hw hB hz1 hk1 hS => ?_)
    obtain ⟨hP, -, hD⟩ := hB
    rw [ht] at hP
    have hD := lx_dj hD hFc
    obtain ⟨x_83, ex_83, h⟩ := lf_lX h
    refine lv_iinc (v := x_83) (lv' := [(13, .int x_83), (0, .ref M.o), (1, .int y_1), (6, .int y_6), (7, .int y_7), (8, .int y_8), (9, .int y_9), (11, .int y_11), (12, .int y_12)]) hx hb d_Mo_make_522 hl (k := 8) rfl (by rw [ex_83]; rfl) (by decide) rfl (fun ls hl => ?_)
    refine lv_goto (tgt := 472) hx hb d_Mo_make_525 (by decide) ?_
    exact hr_472 y_1 y_6 y_7 y_8 y_9 y_11 y_12 x_83 S_82 _ _ _ h hP hD hS (lv_sub hl [1, 2, 3, 4, 5, 6, 7, 8, 0] rfl)
  have hB_702 : ∀ (rec_629 : Int32 → Int32 → Int32 → Int32 → Int32 → MS → Option (Int32 × MS)) (hr_629 : ∀ (y_1 : Int32) (y_6 : Int32) (y_9 : Int32) (y_11 : Int32) (y_14 : Int32) (S : MS) (H : Heap) (locs : List Loc) (ls : Array Slot), rec_629 y_1 y_6 y_9 y_11 y_14 S = some (r, S') → va_P (dC, dI) classes (wM M S) H → va_D A (wM M S) → va_S A s.heap H locs → lv_has ls 18 [(0, .ref M.o), (1, .int y_1), (6, .int y_6), (9, .int y_9), (11, .int y_11), (14, .int y_14)] → W p l e ({ frames := 13, cells := 0, slots := 0, locals := 359 }) s m ([.ref M.o, .int p0] : List Value).toArray below meth c H locs 0 0 Q (F0 m 629 ls [])) (rec_672 : Int32 → Int32 → Int32 → Int32 → Int32 → Int32 → Int32 → Int32 → MS → Option (Int32 × MS)) (hr_672 : ∀ (y_1 : Int32) (y_6 : Int32) (y_9 : Int32) (y_11 : Int32) (y_14 : Int32) (y_15 : Int32) (y_16 : Int32) (y_17 : Int32) (S : MS) (H : Heap) (locs : List Loc) (ls : Array Slot), rec_672 y_1 y_6 y_9 y_11 y_14 y_15 y_16 y_17 S = some (r, S') → va_P (dC, dI) classes (wM M S) H → va_D A (wM M S) → va_S A s.heap H locs → lv_has ls 18 [(0, .ref M.o), (1, .int y_1), (6, .int y_6), (9, .int y_9), (11, .int y_11), (14, .int y_14), (15, .int y_15), (16, .int y_16), (17, .int y_17)] → W p l e ({ frames := 13, cells := 0, slots := 0, locals := 359 }) s m ([.ref M.o, .int p0] : List Value).toArray below meth c H locs 0 0 Q (F0 m 672 ls [])), ∀ (y_1 : Int32) (y_6 : Int32) (y_9 : Int32) (y_11 : Int32) (y_14 : Int32) (y_15 : Int32) (y_16 : Int32) (y_17 : Int32) (z_1 : Int32) (z_2 : Int32) (S : MS) (H : Heap) (locs : List Loc) (ls : Array Slot), f_Mo_make_702 K rec_629 rec_672 y_1 y_6 y_9 y_11 y_14 y_15 y_16 y_17 z_1 z_2 S = some (r, S') → va_P (dC, dI) classes (wM M S) H → va_D A (wM M S) → va_S A s.heap H locs → lv_has ls 18 [(0, .ref M.o), (1, .int y_1), (6, .int y_6), (9, .int y_9), (11, .int y_11), (14, .int y_14), (15, .int y_15), (16, .int y_16), (17, .int y_17)] → W p l e ({ frames := 13, cells := 0, slots := 0, locals := 359 }) s m ([.ref M.o, .int p0] : List Value).toArray below meth c H locs 0 0 Q (F0 m 702 ls [.int z_2, .int z_1, .ref M.a_disk]) := by
    intro rec_629 hr_629 rec_672 hr_672 y_1 y_6 y_9 y_11 y_14 y_15 y_16 y_17 z_1 z_2 S H locs ls h hP hD hS hl
    rw [f_Mo_make_702] at h
    refine lv_i2b hx hb d_Mo_make_702 rfl ?_
    obtain ⟨g_102, h⟩ := lf_gE h
    refine va_bast hx hb hK hP hD hS 1 0 rfl rfl g_102 d_Mo_make_703 (fun H locs hP hD hS => ?_)
    obtain ⟨S_103, eS_103, h⟩ := lf_lX h
    have hP := lx_newP eS_103 hP
    have hD := lx_newD eS_103 hD
    obtain ⟨x_104, ex_104, h⟩ := lf_lX h
    refine lv_iinc (v := x_104) (lv' := [(17, .int x_104), (0, .ref M.o), (1, .int y_1), (6, .int y_6), (9, .int y_9), (11, .int y_11), (14, .int y_14), (15, .int y_15), (16, .int y_16)]) hx hb d_Mo_make_704 hl (k := 8) rfl (by rw [ex_104]; rfl) (by decide) rfl (fun ls hl => ?_)
    refine lv_goto (tgt := 672) hx hb d_Mo_make_707 (by decide) ?_
    exact hr_672 y_1 y_6 y_9 y_11 y_14 y_15 y_16 x_104 S_103 _ _ _ h hP hD hS (lv_sub hl [1, 2, 3, 4, 5, 6, 7, 8, 0] rfl)
  have hB_672 : ∀ (rec_629 : Int32 → Int32 → Int32 → Int32 → Int32 → MS → Option (Int32 × MS)) (hr_629 : ∀ (y_1 : Int32) (y_6 : Int32) (y_9 : Int32) (y_11 : Int32) (y_14 : Int32) (S : MS) (H : Heap) (locs : List Loc) (ls : Array Slot), rec_629 y_1 y_6 y_9 y_11 y_14 S = some (r, S') → va_P (dC, dI) classes (wM M S) H → va_D A (wM M S) → va_S A s.heap H locs → lv_has ls 18 [(0, .ref M.o), (1, .int y_1), (6, .int y_6), (9, .int y_9), (11, .int y_11), (14, .int y_14)] → W p l e ({ frames := 13, cells := 0, slots := 0, locals := 359 }) s m ([.ref M.o, .int p0] : List Value).toArray below meth c H locs 0 0 Q (F0 m 629 ls [])) (k : Nat), ∀ (y_1 : Int32) (y_6 : Int32) (y_9 : Int32) (y_11 : Int32) (y_14 : Int32) (y_15 : Int32) (y_16 : Int32) (y_17 : Int32) (S : MS) (H : Heap) (locs : List Loc) (ls : Array Slot), f_Mo_make_672 K rec_629 k y_1 y_6 y_9 y_11 y_14 y_15 y_16 y_17 S = some (r, S') → va_P (dC, dI) classes (wM M S) H → va_D A (wM M S) → va_S A s.heap H locs → lv_has ls 18 [(0, .ref M.o), (1, .int y_1), (6, .int y_6), (9, .int y_9), (11, .int y_11), (14, .int y_14), (15, .int y_15), (16, .int y_16), (17, .int y_17)] → W p l e ({ frames := 13, cells := 0, slots := 0, locals := 359 }) s m ([.ref M.o, .int p0] : List Value).toArray below meth c H locs 0 0 Q (F0 m 672 ls []) := by
    intro rec_629 hr_629 k
    induction k with
    | zero => intro y_1 y_6 y_9 y_11 y_14 y_15 y_16 y_17 S H locs ls h; exact lf_no h
    | succ k hr_672 =>
      intro y_1 y_6 y_9 y_11 y_14 y_15 y_16 y_17 S H locs ls h hP hD hS hl
      rw [f_Mo_make_672] at h
      refine lv_iload hx hb d_Mo_make_672 (lv_at hl 8 rfl) ?_
      refine lv_bipush (v := 11) hx hb d_Mo_make_674 (by decide) ?_
      refine lv_icmp_ge (tgt := 710) hx hb d_Mo_make_676 (by decide) (fun c_96 => ?_) (fun c_96 => ?_)
      · have h := lf_t h c_96
        refine lv_aload_n hx hb d_Mo_make_710 rfl (lv_at hl 0 rfl) ?_
        refine lv_iload hx hb d_Mo_make_711 (lv_at hl 6 rfl) ?_
        refine lv_bipush (v := 11) hx hb d_Mo_make_713 (by decide) ?_
        refine lv_iadd hx hb d_Mo_make_715 ?_
        refine lv_iconst (v := 1) hx hb d_Mo_make_716 (by decide) ?_
        refine lv_ldc2 (v := 16) hx hb hown (hts _ (u_Mq_Mo _ k_Mo_341)) d_Mo_make_717 ?_
        obtain ⟨S_97, hc_97, h⟩ := lf_bE h
        have hFc := lx_free hD hS hA
        refine va_callv (va_runV (As := [.int (y_15 + 11), .int 1, .long 16]) (rest := []) ⟨hx, hb, hml, hown, hts⟩ (l_Mo_set l dC dI X _ hc_97) (cwV 3 hts (gwV good_Mq (u_Mq_Mo _ k_Mo_221) (u_Mq_Mo _ k_Mo_222) (u_Mq_Mo _ k_Mo_478) (u_Mq_Mo _ k_Mo_0) (wcs (u_Mq_Mo _ k_Mo_223) (fun _ h => h))) rfl rfl rfl (by decide +kernel) ⟨Nat.le_of_ble_eq_true rfl, Nat.le_of_ble_eq_true rfl⟩) (pv_ofE (X.same _) (fun U z1 z2 => X.mono _ _ U hFc (hEw _ _ hS U z1 z2)) hP hK hD (va_recv hK hP (ci := 12) (q0 := 0) rfl rfl)) rfl rfl hl.1 rfl (lv_room (Nat.le_of_ble_eq_true rfl)) d_Mo_make_720 ⟨by decide, by decide⟩) hS (fun q _ h => hFc q h) hFc (fun u t H locs ht hvm hw hB hz1 hk1 hS => ?_)
        obtain ⟨hP, -, hD⟩ := hB
        rw [ht] at hP
        have hD := lx_dj hD hFc
        refine lv_aload_n hx hb d_Mo_make_723 rfl (lv_at hl 0 rfl) ?_
        refine lv_iload hx hb d_Mo_make_724 (lv_at hl 6 rfl) ?_
        refine lv_bipush (v := 24) hx hb d_Mo_make_726 (by decide) ?_
        refine lv_iadd hx hb d_Mo_make_728 ?_
        refine lv_iconst (v := 2) hx hb d_Mo_make_729 (by decide) ?_
        refine lv_ldc2 (v := 33) hx hb hown (hts _ (u_Mq_Mo _ k_Mo_236)) d_Mo_make_730 ?_
        obtain ⟨S_98, hc_98, h⟩ := lf_bE h
        have hFc := lx_free hD hS hA
        refine va_callv (va_runV (As := [.int (y_15 + 24), .int 2, .long 33]) (rest := []) ⟨hx, hb, hml, hown, hts⟩ (l_Mo_set l dC dI X _ hc_98) (cwV 3 hts (gwV good_Mq (u_Mq_Mo _ k_Mo_221) (u_Mq_Mo _ k_Mo_222) (u_Mq_Mo _ k_Mo_478) (u_Mq_Mo _ k_Mo_0) (wcs (u_Mq_Mo _ k_Mo_223) (fun _ h => h))) rfl rfl rfl (by decide +kernel) ⟨Nat.le_of_ble_eq_true rfl, Nat.le_of_ble_eq_true rfl⟩) (pv_ofE (X.same _) (fun U z1 z2 => X.mono _ _ U hFc (hEw _ _ hS U z1 z2)) hP hK hD (va_recv hK hP (ci := 12) (q0 := 0) rfl rfl)) rfl rfl hl.1 rfl (lv_room (Nat.le_of_ble_eq_true rfl)) d_Mo_make_733 ⟨by decide, by decide⟩) hS (fun q _ h => hFc q h) hFc (fun u t H locs ht hvm hw hB hz1 hk1 hS => ?_)
        obtain ⟨hP, -, hD⟩ := hB
        rw [ht] at hP
        have hD := lx_dj hD hFc
        refine lv_aload_n hx hb d_Mo_make_736 rfl (lv_at hl 0 rfl) ?_
        refine lv_iload hx hb d_Mo_make_737 (lv_at hl 6 rfl) ?_
        refine lv_bipush (v := 26) hx hb d_Mo_make_739 (by decide) ?_
        refine lv_iadd hx hb d_Mo_make_741 ?_
        refine lv_iconst (v := 2) hx hb d_Mo_make_742 (by decide) ?_
        refine lv_iload hx hb d_Mo_make_743 (lv_at hl 7 rfl) ?_
        refine lv_i2l hx hb d_Mo_make_745 rfl ?_
        obtain ⟨S_99, hc_99, h⟩ := lf_bE h
        have hFc := lx_free hD hS hA
        refine va_callv (va_runV (As := [.int (y_15 + 26), .int 2, .long y_16.toInt64]) (rest := []) ⟨hx, hb, hml, hown, hts⟩ (l_Mo_set l dC dI X _ hc_99) (cwV 3 hts (gwV good_Mq (u_Mq_Mo _ k_Mo_221) (u_Mq_Mo _ k_Mo_222) (u_Mq_Mo _ k_Mo_478) (u_Mq_Mo _ k_Mo_0) (wcs (u_Mq_Mo _ k_Mo_223) (fun _ h => h))) rfl rfl rfl (by decide +kernel) ⟨Nat.le_of_ble_eq_true rfl, Nat.le_of_ble_eq_true rfl⟩) (pv_ofE (X.same _) (fun U z1 z2 => X.mono _ _ U hFc (hEw _ _ hS U z1 z2)) hP hK hD (va_recv hK hP (ci := 12) (q0 := 0) rfl rfl)) rfl rfl hl.1 rfl (lv_room (Nat.le_of_ble_eq_true rfl)) d_Mo_make_746 ⟨by decide, by decide⟩) hS (fun q _ h => hFc q h) hFc (fun u t H locs ht hvm hw hB hz1 hk1 hS => ?_)
        obtain ⟨hP, -, hD⟩ := hB
        rw [ht] at hP
        have hD := lx_dj hD hFc
        obtain ⟨x_100, ex_100, h⟩ := lf_lX h
        refine lv_iinc (v := x_100) (lv' := [(14, .int x_100), (0, .ref M.o), (1, .int y_1), (6, .int y_6), (9, .int y_9), (11, .int y_11), (15, .int y_15), (16, .int y_16), (17, .int y_17)]) hx hb d_Mo_make_749 hl (k := 5) rfl (by rw [ex_100]; rfl) (by decide) rfl (fun ls hl => ?_)
        refine lv_goto (tgt := 629) hx hb d_Mo_make_752 (by decide) ?_
        exact hr_629 y_1 y_6 y_9 y_11 x_100 S_99 _ _ _ h hP hD hS (lv_sub hl [1, 2, 3, 4, 5, 0] rfl)
      · have h := lf_f h c_96
        refine lv_aload_n hx hb d_Mo_make_679 rfl (lv_at hl 0 rfl) ?_
        refine va_get (D := (dC, dI)) (ci := 12) (v := .ref M.a_disk) (C := R_Mo) (T := F_Mo) (N := 66) hx hb hts (fun w h => u_Mq_Mo w (i_Mo w h)) hown hK hP 0 rfl rfl 1 (by decide) (hts _ (u_Mq_Mo _ k_Mo_8)) (fun _ h9 => h9) rfl d_Mo_make_680 ?_
        refine lv_iload hx hb d_Mo_make_683 (lv_at hl 6 rfl) ?_
        refine lv_iload hx hb d_Mo_make_685 (lv_at hl 8 rfl) ?_
        refine lv_iadd hx hb d_Mo_make_687 ?_
        refine lv_iload hx hb d_Mo_make_688 (lv_at hl 8 rfl) ?_
        refine lv_iload hx hb d_Mo_make_690 (lv_at hl 5 rfl) ?_
        refine lv_icmp_gt (tgt := 700) hx hb d_Mo_make_692 (by decide) (fun c_101 => ?_) (fun c_101 => ?_)
        · have h := lf_t h c_101
          refine lv_bipush (v := 32) hx hb d_Mo_make_700 (by decide) ?_
          exact hB_702 _ hr_629 _ hr_672 y_1 y_6 y_9 y_11 y_14 y_15 y_16 y_17 (y_15 + y_17) 32 S _ _ _ h hP hD hS (lv_sub hl [0, 1, 2, 3, 4, 5, 6, 7, 8] rfl)
        · have h := lf_f h c_101
          refine lv_bipush (v := 46) hx hb d_Mo_make_695 (by decide) ?_
          refine lv_goto (tgt := 702) hx hb d_Mo_make_697 (by decide) ?_
          exact hB_702 _ hr_629 _ hr_672 y_1 y_6 y_9 y_11 y_14 y_15 y_16 y_17 (y_15 + y_17) 46 S _ _ _ h hP hD hS (lv_sub hl [0, 1, 2, 3, 4, 5, 6, 7, 8] rfl)
  have hB_667 : ∀ (rec_629 : Int32 → Int32 → Int32 → Int32 → Int32 → MS → Option (Int32 × MS)) (hr_629 : ∀ (y_1 : Int32) (y_6 : Int32) (y_9 : Int32) (y_11 : Int32) (y_14 : Int32) (S : MS) (H : Heap) (locs : List Loc) (ls : Array Slot), rec_629 y_1 y_6 y_9 y_11 y_14 S = some (r, S') → va_P (dC, dI) classes (wM M S) H → va_D A (wM M S) → va_S A s.heap H locs → lv_has ls 18 [(0, .ref M.o), (1, .int y_1), (6, .int y_6), (9, .int y_9), (11, .int y_11), (14, .int y_14)] → W p l e ({ frames := 13, cells := 0, slots := 0, locals := 359 }) s m ([.ref M.o, .int p0] : List Value).toArray below meth c H locs 0 0 Q (F0 m 629 ls [])), ∀ (y_1 : Int32) (y_6 : Int32) (y_9 : Int32) (y_11 : Int32) (y_14 : Int32) (y_15 : Int32) (z_0 : Int32) (S : MS) (H : Heap) (locs : List Loc) (ls : Array Slot), f_Mo_make_667 K rec_629 y_1 y_6 y_9 y_11 y_14 y_15 z_0 S = some (r, S') → va_P (dC, dI) classes (wM M S) H → va_D A (wM M S) → va_S A s.heap H locs → lv_has ls 18 [(0, .ref M.o), (1, .int y_1), (6, .int y_6), (9, .int y_9), (11, .int y_11), (14, .int y_14), (15, .int y_15)] → W p l e ({ frames := 13, cells := 0, slots := 0, locals := 359 }) s m ([.ref M.o, .int p0] : List Value).toArray below meth c H locs 0 0 Q (F0 m 667 ls [.int z_0]) := by
    intro rec_629 hr_629 y_1 y_6 y_9 y_11 y_14 y_15 z_0 S H locs ls h hP hD hS hl
    rw [f_Mo_make_667] at h
    refine lv_istore (lv' := [(16, .int z_0), (0, .ref M.o), (1, .int y_1), (6, .int y_6), (9, .int y_9), (11, .int y_11), (14, .int y_14), (15, .int y_15)]) hx hb d_Mo_make_667 hl (by decide) rfl (fun ls hl => ?_)
    refine lv_iconst (v := 0) hx hb d_Mo_make_669 (by decide) ?_
    refine lv_istore (lv' := [(17, .int 0), (16, .int z_0), (0, .ref M.o), (1, .int y_1), (6, .int y_6), (9, .int y_9), (11, .int y_11), (14, .int y_14), (15, .int y_15)]) hx hb d_Mo_make_670 hl (by decide) rfl (fun ls hl => ?_)
    exact hB_672 _ hr_629 K y_1 y_6 y_9 y_11 y_14 y_15 z_0 0 S _ _ _ h hP hD hS (lv_sub hl [2, 3, 4, 5, 6, 7, 8, 1, 0] rfl)
  have hB_772 : ∀ (k : Nat), ∀ (y_4 : Int32) (y_6 : Int32) (y_9 : Int32) (y_14 : Int32) (S : MS) (H : Heap) (locs : List Loc) (ls : Array Slot), f_Mo_make_772 K k y_4 y_6 y_9 y_14 S = some (r, S') → va_P (dC, dI) classes (wM M S) H → va_D A (wM M S) → va_S A s.heap H locs → lv_has ls 18 [(0, .ref M.o), (4, .int y_4), (6, .int y_6), (9, .int y_9), (14, .int y_14)] → W p l e ({ frames := 13, cells := 0, slots := 0, locals := 359 }) s m ([.ref M.o, .int p0] : List Value).toArray below meth c H locs 0 0 Q (F0 m 772 ls []) := by
    intro k
    induction k with
    | zero => intro y_4 y_6 y_9 y_14 S H locs ls h; exact lf_no h
    | succ k hr_772 =>
      intro y_4 y_6 y_9 y_14 S H locs ls h hP hD hS hl
      rw [f_Mo_make_772] at h
      refine lv_aload_n hx hb d_Mo_make_772 rfl (lv_at hl 0 rfl) ?_
      refine va_get (D := (dC, dI)) (ci := 12) (v := .ref M.a_slot) (C := R_Mo) (T := F_Mo) (N := 66) hx hb hts (fun w h => u_Mq_Mo w (i_Mo w h)) hown hK hP 0 rfl rfl 25 (by decide) (hts _ (u_Mq_Mo _ k_Mo_32)) (fun _ h9 => h9) rfl d_Mo_make_773 ?_
      refine lv_aload_n hx hb d_Mo_make_776 rfl (lv_at hl 0 rfl) ?_
      refine va_get (D := (dC, dI)) (ci := 12) (v := .ref M.a_firstKid) (C := R_Mo) (T := F_Mo) (N := 66) hx hb hts (fun w h => u_Mq_Mo w (i_Mo w h)) hown hK hP 0 rfl rfl 29 (by decide) (hts _ (u_Mq_Mo _ k_Mo_36)) (fun _ h9 => h9) rfl d_Mo_make_777 ?_
      refine lv_iload hx hb d_Mo_make_780 (lv_at hl 1 rfl) ?_
      obtain ⟨g_92, h⟩ := lf_gE h
      refine va_iald hx hb hK hP 11 10 rfl rfl g_92 d_Mo_make_782 ?_
      refine lv_iload hx hb d_Mo_make_783 (lv_at hl 4 rfl) ?_
      refine lv_iadd hx hb d_Mo_make_785 ?_
      obtain ⟨g_93, h⟩ := lf_gE h
      refine va_iald hx hb hK hP 7 6 rfl rfl g_93 d_Mo_make_786 ?_
      refine lv_iload hx hb d_Mo_make_787 (lv_at hl 3 rfl) ?_
      refine lv_iload hx hb d_Mo_make_789 (lv_at hl 2 rfl) ?_
      refine lv_iadd hx hb d_Mo_make_791 ?_
      refine lv_iconst (v := 1) hx hb d_Mo_make_792 (by decide) ?_
      refine lv_isub hx hb d_Mo_make_793 ?_
      refine lv_icmp_eq (tgt := 803) hx hb d_Mo_make_794 (by decide) (fun c_94 => ?_) (fun c_94 => ?_)
      · have h := lf_t h c_94
        refine lv_iload hx hb d_Mo_make_803 (lv_at hl 4 rfl) ?_
        rw [hQ]
        have e1 : y_14 = r := congrArg Prod.fst (Option.some.inj h)
        have e2 : S = S' := congrArg Prod.snd (Option.some.inj h)
        have hP := lx_newP e2.symm hP
        have hD := lx_newD e2.symm hD
        exact W.iret (v := y_14) hx hb hr (fun t ht hW => ⟨⟨y_14, (), rfl, e1, by rw [ht]; exact hP, va_K.moved hW.alike hK, hD⟩, hS.F ht⟩) hS.2.2 d_Mo_make_805
      · have h := lf_f h c_94
        obtain ⟨x_95, ex_95, h⟩ := lf_lX h
        refine lv_iinc (v := x_95) (lv' := [(14, .int x_95), (0, .ref M.o), (4, .int y_4), (6, .int y_6), (9, .int y_9)]) hx hb d_Mo_make_797 hl (k := 4) rfl (by rw [ex_95]; rfl) (by decide) rfl (fun ls hl => ?_)
        refine lv_goto (tgt := 772) hx hb d_Mo_make_800 (by decide) ?_
        exact hr_772 y_4 y_6 y_9 x_95 S _ _ _ h hP hD hS (lv_sub hl [1, 2, 3, 4, 0] rfl)
  have hB_755 : ∀ (y_6 : Int32) (y_9 : Int32) (S : MS) (H : Heap) (locs : List Loc) (ls : Array Slot), f_Mo_make_755 K y_6 y_9 S = some (r, S') → va_P (dC, dI) classes (wM M S) H → va_D A (wM M S) → va_S A s.heap H locs → lv_has ls 18 [(0, .ref M.o), (6, .int y_6), (9, .int y_9)] → W p l e ({ frames := 13, cells := 0, slots := 0, locals := 359 }) s m ([.ref M.o, .int p0] : List Value).toArray below meth c H locs 0 0 Q (F0 m 755 ls []) := by
    intro y_6 y_9 S H locs ls h hP hD hS hl
    rw [f_Mo_make_755] at h
    refine lv_aload_n hx hb d_Mo_make_755 rfl (lv_at hl 0 rfl) ?_
    obtain ⟨S_89, hc_89, h⟩ := lf_bE h
    have hFc := lx_free hD hS hA
    refine va_callv (va_runV (As := []) (rest := []) ⟨hx, hb, hml, hown, hts⟩ (l_Mo_changed l dC dI X _ hc_89) (cwV 0 hts (gwV good_Mq (u_Mq_Mo _ k_Mo_205) (u_Mq_Mo _ k_Mo_206) (u_Mq_Mo _ k_Mo_506) (u_Mq_Mo _ k_Mo_0) (wcs (u_Mq_Mo _ k_Mo_207) (fun _ h => h))) rfl rfl rfl (by decide +kernel) ⟨Nat.le_of_ble_eq_true rfl, Nat.le_of_ble_eq_true rfl⟩) (pv_ofE (X.same _) (fun U z1 z2 => X.mono _ _ U hFc (hEw _ _ hS U z1 z2)) hP hK hD (va_recv hK hP (ci := 12) (q0 := 0) rfl rfl)) rfl rfl hl.1 rfl (lv_room (Nat.le_of_ble_eq_true rfl)) d_Mo_make_756 ⟨by decide, by decide⟩) hS (fun q _ h => hFc q h) hFc (fun u t H locs ht hvm hw hB hz1 hk1 hS => ?_)
    obtain ⟨hP, -, hD⟩ := hB
    rw [ht] at hP
    have hD := lx_dj hD hFc
    refine lv_aload_n hx hb d_Mo_make_759 rfl (lv_at hl 0 rfl) ?_
    obtain ⟨S_90, hc_90, h⟩ := lf_bE h
    have hFc := lx_free hD hS hA
    refine va_callv (va_runV (As := []) (rest := []) ⟨hx, hb, hml, hown, hts⟩ (l_Mo_look l dC dI X _ hc_90) (cwV 0 hts (gwV good_Mq (u_Mq_Mo _ k_Mo_88) (u_Mq_Mo _ k_Mo_89) (u_Mq_Mo _ k_Mo_492) (u_Mq_Mo _ k_Mo_0) (wcs (u_Mq_Mo _ k_Mo_90) (fun _ h => h))) rfl rfl rfl (by decide +kernel) ⟨Nat.le_of_ble_eq_true rfl, Nat.le_of_ble_eq_true rfl⟩) (pv_ofE (X.same _) (fun U z1 z2 => X.mono _ _ U hFc (hEw _ _ hS U z1 z2)) hP hK hD (va_recv hK hP (ci := 12) (q0 := 0) rfl rfl)) rfl rfl hl.1 rfl (lv_room (Nat.le_of_ble_eq_true rfl)) d_Mo_make_760 ⟨by decide, by decide⟩) hS (fun q _ h => hFc q h) hFc (fun u t H locs ht hvm hw hB hz1 hk1 hS => ?_)
    obtain ⟨hP, -, hD⟩ := hB
    rw [ht] at hP
    have hD := lx_dj hD hFc
    refine lv_aload_n hx hb d_Mo_make_763 rfl (lv_at hl 0 rfl) ?_
    obtain ⟨r_91, S_91, hc_91, h⟩ := lf_cE h
    have hFc := lx_free hD hS hA
    refine va_calli (va_runV (As := []) (rest := []) ⟨hx, hb, hml, hown, hts⟩ (l_Mo_folderHere l dC dI X _ hc_91) (cwV 0 hts (gwV good_Mq (u_Mq_Mo _ k_Mo_246) (u_Mq_Mo _ k_Mo_247) (u_Mq_Mo _ k_Mo_508) (u_Mq_Mo _ k_Mo_0) (wcs (u_Mq_Mo _ k_Mo_248) (fun _ h => h))) rfl rfl rfl (by decide +kernel) ⟨Nat.le_of_ble_eq_true rfl, Nat.le_of_ble_eq_true rfl⟩) (pv_ofE (X.same _) (fun U z1 z2 => X.mono _ _ U hFc (hEw _ _ hS U z1 z2)) hP hK hD (va_recv hK hP (ci := 12) (q0 := 0) rfl rfl)) rfl rfl hl.1 rfl (lv_room (Nat.le_of_ble_eq_true rfl)) d_Mo_make_764 ⟨by decide, by decide⟩) hS (fun q _ h => hFc q h) hFc (fun r_ u t H locs ht hvm hw hB hz1 hk1 hS => ?_)
    rw [hw]
    obtain ⟨hP, -, hD⟩ := hB
    rw [ht] at hP
    have hD := lx_dj hD hFc
    refine lv_istore (lv' := [(4, .int r_91), (0, .ref M.o), (6, .int y_6), (9, .int y_9)]) hx hb d_Mo_make_767 hl (by decide) rfl (fun ls hl => ?_)
    refine lv_iconst (v := 0) hx hb d_Mo_make_769 (by decide) ?_
    refine lv_istore (lv' := [(14, .int 0), (4, .int r_91), (0, .ref M.o), (6, .int y_6), (9, .int y_9)]) hx hb d_Mo_make_770 hl (by decide) rfl (fun ls hl => ?_)
    exact hB_772 K r_91 y_6 y_9 0 S_91 _ _ _ h hP hD hS (lv_sub hl [2, 1, 3, 4, 0] rfl)
  have hB_629 : ∀ (k : Nat), ∀ (y_1 : Int32) (y_6 : Int32) (y_9 : Int32) (y_11 : Int32) (y_14 : Int32) (S : MS) (H : Heap) (locs : List Loc) (ls : Array Slot), f_Mo_make_629 K k y_1 y_6 y_9 y_11 y_14 S = some (r, S') → va_P (dC, dI) classes (wM M S) H → va_D A (wM M S) → va_S A s.heap H locs → lv_has ls 18 [(0, .ref M.o), (1, .int y_1), (6, .int y_6), (9, .int y_9), (11, .int y_11), (14, .int y_14)] → W p l e ({ frames := 13, cells := 0, slots := 0, locals := 359 }) s m ([.ref M.o, .int p0] : List Value).toArray below meth c H locs 0 0 Q (F0 m 629 ls []) := by
    intro k
    induction k with
    | zero => intro y_1 y_6 y_9 y_11 y_14 S H locs ls h; exact lf_no h
    | succ k hr_629 =>
      intro y_1 y_6 y_9 y_11 y_14 S H locs ls h hP hD hS hl
      rw [f_Mo_make_629] at h
      refine lv_iload hx hb d_Mo_make_629 (lv_at hl 5 rfl) ?_
      refine lv_iconst (v := 2) hx hb d_Mo_make_631 (by decide) ?_
      refine lv_icmp_ge (tgt := 755) hx hb d_Mo_make_632 (by decide) (fun c_84 => ?_) (fun c_84 => ?_)
      · have h := lf_t h c_84
        exact hB_755 y_6 y_9 S _ _ _ h hP hD hS (lv_sub hl [0, 2, 3] rfl)
      · have h := lf_f h c_84
        refine lv_iload_n hx hb d_Mo_make_635 rfl (lv_at hl 1 rfl) ?_
        refine lv_if_eq (tgt := 755) hx hb d_Mo_make_636 (by decide) (fun c_85 => ?_) (fun c_85 => ?_)
        · have h := lf_t h c_85
          exact hB_755 y_6 y_9 S _ _ _ h hP hD hS (lv_sub hl [0, 2, 3] rfl)
        · have h := lf_f h c_85
          refine lv_aload_n hx hb d_Mo_make_639 rfl (lv_at hl 0 rfl) ?_
          refine lv_iload hx hb d_Mo_make_640 (lv_at hl 4 rfl) ?_
          obtain ⟨r_86, S_86, hc_86, h⟩ := lf_cE h
          have hFc := lx_free hD hS hA
          refine va_calli (va_runV (As := [.int y_11]) (rest := []) ⟨hx, hb, hml, hown, hts⟩ (l_Mo_place l dC dI X _ hc_86) (cwV 1 hts (gwV good_Mq (u_Mq_Mo _ k_Mo_136) (u_Mq_Mo _ k_Mo_137) (u_Mq_Mo _ k_Mo_483) (u_Mq_Mo _ k_Mo_0) (wcs (u_Mq_Mo _ k_Mo_138) (fun _ h => h))) rfl rfl rfl (by decide +kernel) ⟨Nat.le_of_ble_eq_true rfl, Nat.le_of_ble_eq_true rfl⟩) (pv_ofE (X.same _) (fun U z1 z2 => X.mono _ _ U hFc (hEw _ _ hS U z1 z2)) hP hK hD (va_recv hK hP (ci := 12) (q0 := 0) rfl rfl)) rfl rfl hl.1 rfl (lv_room (Nat.le_of_ble_eq_true rfl)) d_Mo_make_642 ⟨by decide, by decide⟩) hS (fun q _ h => hFc q h) hFc (fun r_ u t H locs ht hvm hw hB hz1 hk1 hS => ?_)
          rw [hw]
          obtain ⟨hP, -, hD⟩ := hB
          rw [ht] at hP
          have hD := lx_dj hD hFc
          refine lv_bipush (v := 32) hx hb d_Mo_make_645 (by decide) ?_
          refine lv_iload hx hb d_Mo_make_647 (lv_at hl 5 rfl) ?_
          refine lv_imul hx hb d_Mo_make_649 ?_
          refine lv_iadd hx hb d_Mo_make_650 ?_
          refine lv_topi (fun x_87 ex_87 => ?_)
          have h := lf_lE h ex_87
          refine lv_istore (lv' := [(15, .int x_87), (0, .ref M.o), (1, .int y_1), (6, .int y_6), (9, .int y_9), (11, .int y_11), (14, .int y_14)]) hx hb d_Mo_make_651 hl (by decide) rfl (fun ls hl => ?_)
          refine lv_iload hx hb d_Mo_make_653 (lv_at hl 6 rfl) ?_
          refine lv_if_ne (tgt := 663) hx hb d_Mo_make_655 (by decide) (fun c_88 => ?_) (fun c_88 => ?_)
          · have h := lf_f h c_88
            refine lv_aload_n hx hb d_Mo_make_663 rfl (lv_at hl 1 rfl) ?_
            refine va_get (D := (dC, dI)) (ci := 12) (v := .int S_86.v_here) (C := R_Mo) (T := F_Mo) (N := 66) hx hb hts (fun w h => u_Mq_Mo w (i_Mo w h)) hown hK hP 0 rfl rfl 18 (by decide) (hts _ (u_Mq_Mo _ k_Mo_25)) (fun _ h9 => h9) rfl d_Mo_make_664 ?_
            exact hB_667 _ hr_629 y_1 y_6 y_9 y_11 y_14 x_87 S_86.v_here S_86 _ _ _ h hP hD hS (lv_sub hl [1, 2, 3, 4, 5, 6, 0] rfl)
          · have h := lf_t h c_88
            refine lv_iload hx hb d_Mo_make_658 (lv_at hl 5 rfl) ?_
            refine lv_goto (tgt := 667) hx hb d_Mo_make_660 (by decide) ?_
            exact hB_667 _ hr_629 y_1 y_6 y_9 y_11 y_14 x_87 y_11 S_86 _ _ _ h hP hD hS (lv_sub hl [1, 2, 3, 4, 5, 6, 0] rfl)
  have hB_626 : ∀ (y_1 : Int32) (y_6 : Int32) (y_9 : Int32) (y_11 : Int32) (S : MS) (H : Heap) (locs : List Loc) (ls : Array Slot), f_Mo_make_626 K y_1 y_6 y_9 y_11 S = some (r, S') → va_P (dC, dI) classes (wM M S) H → va_D A (wM M S) → va_S A s.heap H locs → lv_has ls 18 [(0, .ref M.o), (1, .int y_1), (6, .int y_6), (9, .int y_9), (11, .int y_11)] → W p l e ({ frames := 13, cells := 0, slots := 0, locals := 359 }) s m ([.ref M.o, .int p0] : List Value).toArray below meth c H locs 0 0 Q (F0 m 626 ls []) := by
    intro y_1 y_6 y_9 y_11 S H locs ls h hP hD hS hl
    rw [f_Mo_make_626] at h
    refine lv_iconst (v := 0) hx hb d_Mo_make_626 (by decide) ?_
    refine lv_istore (lv' := [(14, .int 0), (0, .ref M.o), (1, .int y_1), (6, .int y_6), (9, .int y_9), (11, .int y_11)]) hx hb d_Mo_make_627 hl (by decide) rfl (fun ls hl => ?_)
    exact hB_629 K y_1 y_6 y_9 y_11 0 S _ _ _ h hP hD hS (lv_sub hl [1, 2, 3, 4, 5, 0] rfl)
  have hB_548 : ∀ (y_1 : Int32) (y_6 : Int32) (y_7 : Int32) (y_8 : Int32) (y_9 : Int32) (y_11 : Int32) (y_12 : Int32) (z_1 : Int32) (z_2 : Int32) (z_3 : Int64) (S : MS) (H : Heap) (locs : List Loc) (ls : Array Slot), f_Mo_make_548 K y_1 y_6 y_7 y_8 y_9 y_11 y_12 z_1 z_2 z_3 S = some (r, S') → va_P (dC, dI) classes (wM M S) H → va_D A (wM M S) → va_S A s.heap H locs → lv_has ls 18 [(0, .ref M.o), (1, .int y_1), (6, .int y_6), (7, .int y_7), (8, .int y_8), (9, .int y_9), (11, .int y_11), (12, .int y_12)] → W p l e ({ frames := 13, cells := 0, slots := 0, locals := 359 }) s m ([.ref M.o, .int p0] : List Value).toArray below meth c H locs 0 0 Q (F0 m 548 ls [.long z_3, .int z_2, .int z_1, .ref M.o]) := by
    intro y_1 y_6 y_7 y_8 y_9 y_11 y_12 z_1 z_2 z_3 S H locs ls h hP hD hS hl
    rw [f_Mo_make_548] at h
    obtain ⟨S_71, hc_71, h⟩ := lf_bE h
    have hFc := lx_free hD hS hA
    refine va_callv (va_runV (As := [.int z_1, .int z_2, .long z_3]) (rest := []) ⟨hx, hb, hml, hown, hts⟩ (l_Mo_set l dC dI X _ hc_71) (cwV 3 hts (gwV good_Mq (u_Mq_Mo _ k_Mo_221) (u_Mq_Mo _ k_Mo_222) (u_Mq_Mo _ k_Mo_478) (u_Mq_Mo _ k_Mo_0) (wcs (u_Mq_Mo _ k_Mo_223) (fun _ h => h))) rfl rfl rfl (by decide +kernel) ⟨Nat.le_of_ble_eq_true rfl, Nat.le_of_ble_eq_true rfl⟩) (pv_ofE (X.same _) (fun U z1 z2 => X.mono _ _ U hFc (hEw _ _ hS U z1 z2)) hP hK hD (va_recv hK hP (ci := 12) (q0 := 0) rfl rfl)) rfl rfl hl.1 rfl (lv_room (Nat.le_of_ble_eq_true rfl)) d_Mo_make_548 ⟨by decide, by decide⟩) hS (fun q _ h => hFc q h) hFc (fun u t H locs ht hvm hw hB hz1 hk1 hS => ?_)
    obtain ⟨hP, -, hD⟩ := hB
    rw [ht] at hP
    have hD := lx_dj hD hFc
    refine lv_aload_n hx hb d_Mo_make_551 rfl (lv_at hl 0 rfl) ?_
    refine lv_iload hx hb d_Mo_make_552 (lv_at hl 7 rfl) ?_
    refine lv_bipush (v := 24) hx hb d_Mo_make_554 (by decide) ?_
    refine lv_iadd hx hb d_Mo_make_556 ?_
    refine lv_iconst (v := 2) hx hb d_Mo_make_557 (by decide) ?_
    refine lv_ldc2 (v := 33) hx hb hown (hts _ (u_Mq_Mo _ k_Mo_236)) d_Mo_make_558 ?_
    obtain ⟨S_72, hc_72, h⟩ := lf_bE h
    have hFc := lx_free hD hS hA
    refine va_callv (va_runV (As := [.int (y_12 + 24), .int 2, .long 33]) (rest := []) ⟨hx, hb, hml, hown, hts⟩ (l_Mo_set l dC dI X _ hc_72) (cwV 3 hts (gwV good_Mq (u_Mq_Mo _ k_Mo_221) (u_Mq_Mo _ k_Mo_222) (u_Mq_Mo _ k_Mo_478) (u_Mq_Mo _ k_Mo_0) (wcs (u_Mq_Mo _ k_Mo_223) (fun _ h => h))) rfl rfl rfl (by decide +kernel) ⟨Nat.le_of_ble_eq_true rfl, Nat.le_of_ble_eq_true rfl⟩) (pv_ofE (X.same _) (fun U z1 z2 => X.mono _ _ U hFc (hEw _ _ hS U z1 z2)) hP hK hD (va_recv hK hP (ci := 12) (q0 := 0) rfl rfl)) rfl rfl hl.1 rfl (lv_room (Nat.le_of_ble_eq_true rfl)) d_Mo_make_561 ⟨by decide, by decide⟩) hS (fun q _ h => hFc q h) hFc (fun u t H locs ht hvm hw hB hz1 hk1 hS => ?_)
    obtain ⟨hP, -, hD⟩ := hB
    rw [ht] at hP
    have hD := lx_dj hD hFc
    refine lv_aload_n hx hb d_Mo_make_564 rfl (lv_at hl 0 rfl) ?_
    refine lv_iload hx hb d_Mo_make_565 (lv_at hl 7 rfl) ?_
    refine lv_bipush (v := 20) hx hb d_Mo_make_567 (by decide) ?_
    refine lv_iadd hx hb d_Mo_make_569 ?_
    refine lv_iconst (v := 2) hx hb d_Mo_make_570 (by decide) ?_
    refine lv_iload hx hb d_Mo_make_571 (lv_at hl 6 rfl) ?_
    refine lv_bipush (v := 16) hx hb d_Mo_make_573 (by decide) ?_
    refine lv_ishr hx hb d_Mo_make_575 ?_
    refine lv_i2l hx hb d_Mo_make_576 rfl ?_
    obtain ⟨S_73, hc_73, h⟩ := lf_bE h
    have hFc := lx_free hD hS hA
    refine va_callv (va_runV (As := [.int (y_12 + 20), .int 2, .long ((y_11 >>> ((16 : Int32) &&& 31)).toInt64)]) (rest := []) ⟨hx, hb, hml, hown, hts⟩ (l_Mo_set l dC dI X _ hc_73) (cwV 3 hts (gwV good_Mq (u_Mq_Mo _ k_Mo_221) (u_Mq_Mo _ k_Mo_222) (u_Mq_Mo _ k_Mo_478) (u_Mq_Mo _ k_Mo_0) (wcs (u_Mq_Mo _ k_Mo_223) (fun _ h => h))) rfl rfl rfl (by decide +kernel) ⟨Nat.le_of_ble_eq_true rfl, Nat.le_of_ble_eq_true rfl⟩) (pv_ofE (X.same _) (fun U z1 z2 => X.mono _ _ U hFc (hEw _ _ hS U z1 z2)) hP hK hD (va_recv hK hP (ci := 12) (q0 := 0) rfl rfl)) rfl rfl hl.1 rfl (lv_room (Nat.le_of_ble_eq_true rfl)) d_Mo_make_577 ⟨by decide, by decide⟩) hS (fun q _ h => hFc q h) hFc (fun u t H locs ht hvm hw hB hz1 hk1 hS => ?_)
    obtain ⟨hP, -, hD⟩ := hB
    rw [ht] at hP
    have hD := lx_dj hD hFc
    refine lv_aload_n hx hb d_Mo_make_580 rfl (lv_at hl 0 rfl) ?_
    refine lv_iload hx hb d_Mo_make_581 (lv_at hl 7 rfl) ?_
    refine lv_bipush (v := 26) hx hb d_Mo_make_583 (by decide) ?_
    refine lv_iadd hx hb d_Mo_make_585 ?_
    refine lv_iconst (v := 2) hx hb d_Mo_make_586 (by decide) ?_
    refine lv_iload hx hb d_Mo_make_587 (lv_at hl 6 rfl) ?_
    refine lv_i2l hx hb d_Mo_make_589 rfl ?_
    obtain ⟨S_74, hc_74, h⟩ := lf_bE h
    have hFc := lx_free hD hS hA
    refine va_callv (va_runV (As := [.int (y_12 + 26), .int 2, .long y_11.toInt64]) (rest := []) ⟨hx, hb, hml, hown, hts⟩ (l_Mo_set l dC dI X _ hc_74) (cwV 3 hts (gwV good_Mq (u_Mq_Mo _ k_Mo_221) (u_Mq_Mo _ k_Mo_222) (u_Mq_Mo _ k_Mo_478) (u_Mq_Mo _ k_Mo_0) (wcs (u_Mq_Mo _ k_Mo_223) (fun _ h => h))) rfl rfl rfl (by decide +kernel) ⟨Nat.le_of_ble_eq_true rfl, Nat.le_of_ble_eq_true rfl⟩) (pv_ofE (X.same _) (fun U z1 z2 => X.mono _ _ U hFc (hEw _ _ hS U z1 z2)) hP hK hD (va_recv hK hP (ci := 12) (q0 := 0) rfl rfl)) rfl rfl hl.1 rfl (lv_room (Nat.le_of_ble_eq_true rfl)) d_Mo_make_590 ⟨by decide, by decide⟩) hS (fun q _ h => hFc q h) hFc (fun u t H locs ht hvm hw hB hz1 hk1 hS => ?_)
    obtain ⟨hP, -, hD⟩ := hB
    rw [ht] at hP
    have hD := lx_dj hD hFc
    refine lv_iload hx hb d_Mo_make_593 (lv_at hl 5 rfl) ?_
    refine lv_iload hx hb d_Mo_make_595 (lv_at hl 2 rfl) ?_
    refine lv_iadd hx hb d_Mo_make_597 ?_
    refine lv_topi (fun x_75 ex_75 => ?_)
    have h := lf_lE h ex_75
    refine lv_istore (lv' := [(13, .int x_75), (0, .ref M.o), (1, .int y_1), (6, .int y_6), (7, .int y_7), (8, .int y_8), (9, .int y_9), (11, .int y_11), (12, .int y_12)]) hx hb d_Mo_make_598 hl (by decide) rfl (fun ls hl => ?_)
    refine lv_iload hx hb d_Mo_make_600 (lv_at hl 0 rfl) ?_
    refine lv_iload hx hb d_Mo_make_602 (lv_at hl 5 rfl) ?_
    refine lv_icmp_lt (tgt := 626) hx hb d_Mo_make_604 (by decide) (fun c_76 => ?_) (fun c_76 => ?_)
    · have h := lf_t h c_76
      exact hB_626 y_1 y_6 y_9 y_11 S_74 _ _ _ h hP hD hS (lv_sub hl [1, 2, 3, 6, 7] rfl)
    · have h := lf_f h c_76
      refine lv_iload hx hb d_Mo_make_607 (lv_at hl 0 rfl) ?_
      refine lv_iload hx hb d_Mo_make_609 (lv_at hl 4 rfl) ?_
      refine lv_icmp_ge (tgt := 626) hx hb d_Mo_make_611 (by decide) (fun c_77 => ?_) (fun c_77 => ?_)
      · have h := lf_t h c_77
        exact hB_626 y_1 y_6 y_9 y_11 S_74 _ _ _ h hP hD hS (lv_sub hl [1, 2, 3, 6, 7] rfl)
      · have h := lf_f h c_77
        refine lv_aload_n hx hb d_Mo_make_614 rfl (lv_at hl 1 rfl) ?_
        refine va_get (D := (dC, dI)) (ci := 12) (v := .ref M.a_disk) (C := R_Mo) (T := F_Mo) (N := 66) hx hb hts (fun w h => u_Mq_Mo w (i_Mo w h)) hown hK hP 0 rfl rfl 1 (by decide) (hts _ (u_Mq_Mo _ k_Mo_8)) (fun _ h9 => h9) rfl d_Mo_make_615 ?_
        refine lv_aload_n hx hb d_Mo_make_618 rfl (lv_at hl 1 rfl) ?_
        refine lv_iload hx hb d_Mo_make_619 (lv_at hl 0 rfl) ?_
        obtain ⟨r_78, S_78, hc_78, h⟩ := lf_cE h
        have hFc := lx_free hD hS hA
        refine va_calli (va_runV (As := [.int x_75]) (rest := [.ref M.a_disk]) ⟨hx, hb, hml, hown, hts⟩ (l_Mo_slotAt l dC dI X _ hc_78) (cwV 1 hts (gwV good_Mq (u_Mq_Mo _ k_Mo_133) (u_Mq_Mo _ k_Mo_134) (u_Mq_Mo _ k_Mo_491) (u_Mq_Mo _ k_Mo_0) (wcs (u_Mq_Mo _ k_Mo_135) (fun _ h => h))) rfl rfl rfl (by decide +kernel) ⟨Nat.le_of_ble_eq_true rfl, Nat.le_of_ble_eq_true rfl⟩) (pv_ofE (X.same _) (fun U z1 z2 => X.mono _ _ U hFc (hEw _ _ hS U z1 z2)) hP hK hD (va_recv hK hP (ci := 12) (q0 := 0) rfl rfl)) rfl rfl hl.1 rfl (lv_room (Nat.le_of_ble_eq_true rfl)) d_Mo_make_621 ⟨by decide, by decide⟩) hS (fun q _ h => hFc q h) hFc (fun r_ u t H locs ht hvm hw hB hz1 hk1 hS => ?_)
        rw [hw]
        obtain ⟨hP, -, hD⟩ := hB
        rw [ht] at hP
        have hD := lx_dj hD hFc
        refine lv_iconst (v := 0) hx hb d_Mo_make_624 (by decide) ?_
        obtain ⟨g_79, h⟩ := lf_gE h
        refine va_bast hx hb hK hP hD hS 1 0 rfl rfl g_79 d_Mo_make_625 (fun H locs hP hD hS => ?_)
        obtain ⟨S_80, eS_80, h⟩ := lf_lX h
        have hP := lx_newP eS_80 hP
        have hD := lx_newD eS_80 hD
        exact hB_626 y_1 y_6 y_9 y_11 S_80 _ _ _ h hP hD hS (lv_sub hl [1, 2, 3, 6, 7] rfl)
  have hB_472 : ∀ (k : Nat), ∀ (y_1 : Int32) (y_6 : Int32) (y_7 : Int32) (y_8 : Int32) (y_9 : Int32) (y_11 : Int32) (y_12 : Int32) (y_13 : Int32) (S : MS) (H : Heap) (locs : List Loc) (ls : Array Slot), f_Mo_make_472 K k y_1 y_6 y_7 y_8 y_9 y_11 y_12 y_13 S = some (r, S') → va_P (dC, dI) classes (wM M S) H → va_D A (wM M S) → va_S A s.heap H locs → lv_has ls 18 [(0, .ref M.o), (1, .int y_1), (6, .int y_6), (7, .int y_7), (8, .int y_8), (9, .int y_9), (11, .int y_11), (12, .int y_12), (13, .int y_13)] → W p l e ({ frames := 13, cells := 0, slots := 0, locals := 359 }) s m ([.ref M.o, .int p0] : List Value).toArray below meth c H locs 0 0 Q (F0 m 472 ls []) := by
    intro k
    induction k with
    | zero => intro y_1 y_6 y_7 y_8 y_9 y_11 y_12 y_13 S H locs ls h; exact lf_no h
    | succ k hr_472 =>
      intro y_1 y_6 y_7 y_8 y_9 y_11 y_12 y_13 S H locs ls h hP hD hS hl
      rw [f_Mo_make_472] at h
      refine lv_iload hx hb d_Mo_make_472 (lv_at hl 8 rfl) ?_
      refine lv_iload hx hb d_Mo_make_474 (lv_at hl 5 rfl) ?_
      refine lv_iload hx hb d_Mo_make_476 (lv_at hl 2 rfl) ?_
      refine lv_iadd hx hb d_Mo_make_478 ?_
      refine lv_iconst (v := 1) hx hb d_Mo_make_479 (by decide) ?_
      refine lv_isub hx hb d_Mo_make_480 ?_
      refine lv_icmp_ge (tgt := 528) hx hb d_Mo_make_481 (by decide) (fun c_67 => ?_) (fun c_67 => ?_)
      · have h := lf_t h c_67
        refine lv_aload_n hx hb d_Mo_make_528 rfl (lv_at hl 0 rfl) ?_
        refine lv_iload hx hb d_Mo_make_529 (lv_at hl 7 rfl) ?_
        refine lv_bipush (v := 11) hx hb d_Mo_make_531 (by decide) ?_
        refine lv_iadd hx hb d_Mo_make_533 ?_
        refine lv_iconst (v := 1) hx hb d_Mo_make_534 (by decide) ?_
        refine lv_iload_n hx hb d_Mo_make_535 rfl (lv_at hl 1 rfl) ?_
        refine lv_if_eq (tgt := 545) hx hb d_Mo_make_536 (by decide) (fun c_68 => ?_) (fun c_68 => ?_)
        · have h := lf_t h c_68
          refine lv_ldc2 (v := 32) hx hb hown (hts _ (u_Mq_Mo _ k_Mo_340)) d_Mo_make_545 ?_
          exact hB_548 y_1 y_6 y_7 y_8 y_9 y_11 y_12 (y_12 + 11) 1 32 S _ _ _ h hP hD hS (lv_sub hl [0, 1, 2, 3, 4, 5, 6, 7] rfl)
        · have h := lf_f h c_68
          refine lv_ldc2 (v := 48) hx hb hown (hts _ (u_Mq_Mo _ k_Mo_339)) d_Mo_make_539 ?_
          refine lv_goto (tgt := 548) hx hb d_Mo_make_542 (by decide) ?_
          exact hB_548 y_1 y_6 y_7 y_8 y_9 y_11 y_12 (y_12 + 11) 1 48 S _ _ _ h hP hD hS (lv_sub hl [0, 1, 2, 3, 4, 5, 6, 7] rfl)
      · have h := lf_f h c_67
        refine lv_aload_n hx hb d_Mo_make_484 rfl (lv_at hl 0 rfl) ?_
        refine lv_aload_n hx hb d_Mo_make_485 rfl (lv_at hl 0 rfl) ?_
        refine lv_iload hx hb d_Mo_make_486 (lv_at hl 8 rfl) ?_
        obtain ⟨r_69, S_69, hc_69, h⟩ := lf_cE h
        have hFc := lx_free hD hS hA
        refine va_calli (va_runV (As := [.int y_13]) (rest := [.ref M.o]) ⟨hx, hb, hml, hown, hts⟩ (l_Mo_slotAt l dC dI X _ hc_69) (cwV 1 hts (gwV good_Mq (u_Mq_Mo _ k_Mo_133) (u_Mq_Mo _ k_Mo_134) (u_Mq_Mo _ k_Mo_491) (u_Mq_Mo _ k_Mo_0) (wcs (u_Mq_Mo _ k_Mo_135) (fun _ h => h))) rfl rfl rfl (by decide +kernel) ⟨Nat.le_of_ble_eq_true rfl, Nat.le_of_ble_eq_true rfl⟩) (pv_ofE (X.same _) (fun U z1 z2 => X.mono _ _ U hFc (hEw _ _ hS U z1 z2)) hP hK hD (va_recv hK hP (ci := 12) (q0 := 0) rfl rfl)) rfl rfl hl.1 rfl (lv_room (Nat.le_of_ble_eq_true rfl)) d_Mo_make_488 ⟨by decide, by decide⟩) hS (fun q _ h => hFc q h) hFc (fun r_ u t H locs ht hvm hw hB hz1 hk1 hS => ?_)
        rw [hw]
        obtain ⟨hP, -, hD⟩ := hB
        rw [ht] at hP
        have hD := lx_dj hD hFc
        refine lv_iload hx hb d_Mo_make_491 (lv_at hl 2 rfl) ?_
        refine lv_iconst (v := 1) hx hb d_Mo_make_493 (by decide) ?_
        refine lv_isub hx hb d_Mo_make_494 ?_
        refine lv_iload hx hb d_Mo_make_495 (lv_at hl 8 rfl) ?_
        refine lv_iload hx hb d_Mo_make_497 (lv_at hl 5 rfl) ?_
        refine lv_isub hx hb d_Mo_make_499 ?_
        refine lv_isub hx hb d_Mo_make_500 ?_
        refine lv_iload hx hb d_Mo_make_501 (lv_at hl 8 rfl) ?_
        refine lv_iload hx hb d_Mo_make_503 (lv_at hl 5 rfl) ?_
        refine lv_icmp_ne (tgt := 512) hx hb d_Mo_make_505 (by decide) (fun c_70 => ?_) (fun c_70 => ?_)
        · have h := lf_f h c_70
          refine lv_iconst (v := 0) hx hb d_Mo_make_512 (by decide) ?_
          exact hB_513 _ hr_472 y_1 y_6 y_7 y_8 y_9 y_11 y_12 y_13 r_69 ((y_6 - 1) - (y_13 - y_9)) 0 S_69 _ _ _ h hP hD hS (lv_sub hl [0, 1, 2, 3, 4, 5, 6, 7, 8] rfl)
        · have h := lf_t h c_70
          refine lv_iconst (v := 1) hx hb d_Mo_make_508 (by decide) ?_
          refine lv_goto (tgt := 513) hx hb d_Mo_make_509 (by decide) ?_
          exact hB_513 _ hr_472 y_1 y_6 y_7 y_8 y_9 y_11 y_12 y_13 r_69 ((y_6 - 1) - (y_13 - y_9)) 1 S_69 _ _ _ h hP hD hS (lv_sub hl [0, 1, 2, 3, 4, 5, 6, 7, 8] rfl)
  have hB_437 : ∀ (k : Nat), ∀ (y_1 : Int32) (y_6 : Int32) (y_7 : Int32) (y_8 : Int32) (y_9 : Int32) (y_11 : Int32) (y_12 : Int32) (y_13 : Int32) (S : MS) (H : Heap) (locs : List Loc) (ls : Array Slot), f_Mo_make_437 K k y_1 y_6 y_7 y_8 y_9 y_11 y_12 y_13 S = some (r, S') → va_P (dC, dI) classes (wM M S) H → va_D A (wM M S) → va_S A s.heap H locs → lv_has ls 18 [(0, .ref M.o), (1, .int y_1), (6, .int y_6), (7, .int y_7), (8, .int y_8), (9, .int y_9), (11, .int y_11), (12, .int y_12), (13, .int y_13)] → W p l e ({ frames := 13, cells := 0, slots := 0, locals := 359 }) s m ([.ref M.o, .int p0] : List Value).toArray below meth c H locs 0 0 Q (F0 m 437 ls []) := by
    intro k
    induction k with
    | zero => intro y_1 y_6 y_7 y_8 y_9 y_11 y_12 y_13 S H locs ls h; exact lf_no h
    | succ k hr_437 =>
      intro y_1 y_6 y_7 y_8 y_9 y_11 y_12 y_13 S H locs ls h hP hD hS hl
      rw [f_Mo_make_437] at h
      refine lv_iload hx hb d_Mo_make_437 (lv_at hl 8 rfl) ?_
      refine lv_bipush (v := 11) hx hb d_Mo_make_439 (by decide) ?_
      refine lv_icmp_ge (tgt := 468) hx hb d_Mo_make_441 (by decide) (fun c_56 => ?_) (fun c_56 => ?_)
      · have h := lf_t h c_56
        refine lv_iload hx hb d_Mo_make_468 (lv_at hl 5 rfl) ?_
        refine lv_istore (lv' := [(13, .int y_9), (0, .ref M.o), (1, .int y_1), (6, .int y_6), (7, .int y_7), (8, .int y_8), (9, .int y_9), (11, .int y_11), (12, .int y_12)]) hx hb d_Mo_make_470 hl (by decide) rfl (fun ls hl => ?_)
        exact hB_472 K y_1 y_6 y_7 y_8 y_9 y_11 y_12 y_9 S _ _ _ h hP hD hS (lv_sub hl [1, 2, 3, 4, 5, 6, 7, 8, 0] rfl)
      · have h := lf_f h c_56
        refine lv_aload_n hx hb d_Mo_make_444 rfl (lv_at hl 0 rfl) ?_
        refine va_get (D := (dC, dI)) (ci := 12) (v := .ref M.a_disk) (C := R_Mo) (T := F_Mo) (N := 66) hx hb hts (fun w h => u_Mq_Mo w (i_Mo w h)) hown hK hP 0 rfl rfl 1 (by decide) (hts _ (u_Mq_Mo _ k_Mo_8)) (fun _ h9 => h9) rfl d_Mo_make_445 ?_
        refine lv_iload hx hb d_Mo_make_448 (lv_at hl 7 rfl) ?_
        refine lv_iload hx hb d_Mo_make_450 (lv_at hl 8 rfl) ?_
        refine lv_iadd hx hb d_Mo_make_452 ?_
        refine lv_aload_n hx hb d_Mo_make_453 rfl (lv_at hl 0 rfl) ?_
        refine va_get (D := (dC, dI)) (ci := 12) (v := .ref M.a_brief) (C := R_Mo) (T := F_Mo) (N := 66) hx hb hts (fun w h => u_Mq_Mo w (i_Mo w h)) hown hK hP 0 rfl rfl 43 (by decide) (hts _ (u_Mq_Mo _ k_Mo_50)) (fun _ h9 => h9) rfl d_Mo_make_454 ?_
        refine lv_iload hx hb d_Mo_make_457 (lv_at hl 8 rfl) ?_
        obtain ⟨g_57, h⟩ := lf_gE h
        refine va_iald hx hb hK hP 18 17 rfl rfl g_57 d_Mo_make_459 ?_
        refine lv_i2b hx hb d_Mo_make_460 rfl ?_
        obtain ⟨g_58, h⟩ := lf_gE h
        refine va_bast hx hb hK hP hD hS 1 0 rfl rfl g_58 d_Mo_make_461 (fun H locs hP hD hS => ?_)
        obtain ⟨S_59, eS_59, h⟩ := lf_lX h
        have hP := lx_newP eS_59 hP
        have hD := lx_newD eS_59 hD
        obtain ⟨x_60, ex_60, h⟩ := lf_lX h
        refine lv_iinc (v := x_60) (lv' := [(13, .int x_60), (0, .ref M.o), (1, .int y_1), (6, .int y_6), (7, .int y_7), (8, .int y_8), (9, .int y_9), (11, .int y_11), (12, .int y_12)]) hx hb d_Mo_make_462 hl (k := 8) rfl (by rw [ex_60]; rfl) (by decide) rfl (fun ls hl => ?_)
        refine lv_goto (tgt := 437) hx hb d_Mo_make_465 (by decide) ?_
        exact hr_437 y_1 y_6 y_7 y_8 y_9 y_11 y_12 x_60 S_59 _ _ _ h hP hD hS (lv_sub hl [1, 2, 3, 4, 5, 6, 7, 8, 0] rfl)
  have hB_374 : ∀ (k : Nat), ∀ (y_1 : Int32) (y_6 : Int32) (y_7 : Int32) (y_8 : Int32) (y_9 : Int32) (y_11 : Int32) (y_12 : Int32) (S : MS) (H : Heap) (locs : List Loc) (ls : Array Slot), f_Mo_make_374 K k y_1 y_6 y_7 y_8 y_9 y_11 y_12 S = some (r, S') → va_P (dC, dI) classes (wM M S) H → va_D A (wM M S) → va_S A s.heap H locs → lv_has ls 18 [(0, .ref M.o), (1, .int y_1), (6, .int y_6), (7, .int y_7), (8, .int y_8), (9, .int y_9), (11, .int y_11), (12, .int y_12)] → W p l e ({ frames := 13, cells := 0, slots := 0, locals := 359 }) s m ([.ref M.o, .int p0] : List Value).toArray below meth c H locs 0 0 Q (F0 m 374 ls []) := by
    intro k
    induction k with
    | zero => intro y_1 y_6 y_7 y_8 y_9 y_11 y_12 S H locs ls h; exact lf_no h
    | succ k hr_374 =>
      intro y_1 y_6 y_7 y_8 y_9 y_11 y_12 S H locs ls h hP hD hS hl
      rw [f_Mo_make_374] at h
      refine lv_iload hx hb d_Mo_make_374 (lv_at hl 7 rfl) ?_
      refine lv_iload hx hb d_Mo_make_376 (lv_at hl 5 rfl) ?_
      refine lv_iload hx hb d_Mo_make_378 (lv_at hl 2 rfl) ?_
      refine lv_iadd hx hb d_Mo_make_380 ?_
      refine lv_icmp_ge (tgt := 421) hx hb d_Mo_make_381 (by decide) (fun c_54 => ?_) (fun c_54 => ?_)
      · have h := lf_t h c_54
        refine lv_aload_n hx hb d_Mo_make_421 rfl (lv_at hl 0 rfl) ?_
        refine lv_iload hx hb d_Mo_make_422 (lv_at hl 5 rfl) ?_
        refine lv_iload hx hb d_Mo_make_424 (lv_at hl 2 rfl) ?_
        refine lv_iadd hx hb d_Mo_make_426 ?_
        refine lv_iconst (v := 1) hx hb d_Mo_make_427 (by decide) ?_
        refine lv_isub hx hb d_Mo_make_428 ?_
        obtain ⟨r_55, S_55, hc_55, h⟩ := lf_cE h
        have hFc := lx_free hD hS hA
        refine va_calli (va_runV (As := [.int ((y_9 + y_6) - 1)]) (rest := []) ⟨hx, hb, hml, hown, hts⟩ (l_Mo_slotAt l dC dI X _ hc_55) (cwV 1 hts (gwV good_Mq (u_Mq_Mo _ k_Mo_133) (u_Mq_Mo _ k_Mo_134) (u_Mq_Mo _ k_Mo_491) (u_Mq_Mo _ k_Mo_0) (wcs (u_Mq_Mo _ k_Mo_135) (fun _ h => h))) rfl rfl rfl (by decide +kernel) ⟨Nat.le_of_ble_eq_true rfl, Nat.le_of_ble_eq_true rfl⟩) (pv_ofE (X.same _) (fun U z1 z2 => X.mono _ _ U hFc (hEw _ _ hS U z1 z2)) hP hK hD (va_recv hK hP (ci := 12) (q0 := 0) rfl rfl)) rfl rfl hl.1 rfl (lv_room (Nat.le_of_ble_eq_true rfl)) d_Mo_make_429 ⟨by decide, by decide⟩) hS (fun q _ h => hFc q h) hFc (fun r_ u t H locs ht hvm hw hB hz1 hk1 hS => ?_)
        rw [hw]
        obtain ⟨hP, -, hD⟩ := hB
        rw [ht] at hP
        have hD := lx_dj hD hFc
        refine lv_istore (lv' := [(12, .int r_55), (0, .ref M.o), (1, .int y_1), (6, .int y_6), (7, .int y_7), (8, .int y_8), (9, .int y_9), (11, .int y_11)]) hx hb d_Mo_make_432 hl (by decide) rfl (fun ls hl => ?_)
        refine lv_iconst (v := 0) hx hb d_Mo_make_434 (by decide) ?_
        refine lv_istore (lv' := [(13, .int 0), (12, .int r_55), (0, .ref M.o), (1, .int y_1), (6, .int y_6), (7, .int y_7), (8, .int y_8), (9, .int y_9), (11, .int y_11)]) hx hb d_Mo_make_435 hl (by decide) rfl (fun ls hl => ?_)
        exact hB_437 K y_1 y_6 y_7 y_8 y_9 y_11 r_55 0 S_55 _ _ _ h hP hD hS (lv_sub hl [2, 3, 4, 5, 6, 7, 8, 1, 0] rfl)
      · have h := lf_f h c_54
        refine lv_iconst (v := 0) hx hb d_Mo_make_384 (by decide) ?_
        refine lv_istore (lv' := [(13, .int 0), (0, .ref M.o), (1, .int y_1), (6, .int y_6), (7, .int y_7), (8, .int y_8), (9, .int y_9), (11, .int y_11), (12, .int y_12)]) hx hb d_Mo_make_385 hl (by decide) rfl (fun ls hl => ?_)
        exact hB_387 _ hr_374 K y_1 y_6 y_7 y_8 y_9 y_11 y_12 0 S _ _ _ h hP hD hS (lv_sub hl [1, 2, 3, 4, 5, 6, 7, 8, 0] rfl)
  have hB_310 : ∀ (k : Nat), ∀ (y_1 : Int32) (y_6 : Int32) (y_7 : Int32) (y_8 : Int32) (y_9 : Int32) (y_10 : Int32) (y_11 : Int32) (y_12 : Int32) (S : MS) (H : Heap) (locs : List Loc) (ls : Array Slot), f_Mo_make_310 K k y_1 y_6 y_7 y_8 y_9 y_10 y_11 y_12 S = some (r, S') → va_P (dC, dI) classes (wM M S) H → va_D A (wM M S) → va_S A s.heap H locs → lv_has ls 18 [(0, .ref M.o), (1, .int y_1), (6, .int y_6), (7, .int y_7), (8, .int y_8), (9, .int y_9), (10, .int y_10), (11, .int y_11), (12, .int y_12)] → W p l e ({ frames := 13, cells := 0, slots := 0, locals := 359 }) s m ([.ref M.o, .int p0] : List Value).toArray below meth c H locs 0 0 Q (F0 m 310 ls []) := by
    intro k
    induction k with
    | zero => intro y_1 y_6 y_7 y_8 y_9 y_10 y_11 y_12 S H locs ls h; exact lf_no h
    | succ k hr_310 =>
      intro y_1 y_6 y_7 y_8 y_9 y_10 y_11 y_12 S H locs ls h hP hD hS hl
      rw [f_Mo_make_310] at h
      refine lv_iload hx hb d_Mo_make_310 (lv_at hl 8 rfl) ?_
      refine lv_iload hx hb d_Mo_make_312 (lv_at hl 6 rfl) ?_
      refine lv_icmp_ge (tgt := 370) hx hb d_Mo_make_314 (by decide) (fun c_45 => ?_) (fun c_45 => ?_)
      · have h := lf_t h c_45
        refine lv_iload hx hb d_Mo_make_370 (lv_at hl 5 rfl) ?_
        refine lv_istore (lv' := [(12, .int y_9), (0, .ref M.o), (1, .int y_1), (6, .int y_6), (7, .int y_7), (8, .int y_8), (9, .int y_9), (10, .int y_10), (11, .int y_11)]) hx hb d_Mo_make_372 hl (by decide) rfl (fun ls hl => ?_)
        exact hB_374 K y_1 y_6 y_7 y_8 y_9 y_11 y_9 S _ _ _ h hP hD hS (lv_sub hl [1, 2, 3, 4, 5, 6, 8, 0] rfl)
      · have h := lf_f h c_45
        refine lv_aload_n hx hb d_Mo_make_317 rfl (lv_at hl 0 rfl) ?_
        refine va_get (D := (dC, dI)) (ci := 12) (v := .ref M.a_folder) (C := R_Mo) (T := F_Mo) (N := 66) hx hb hts (fun w h => u_Mq_Mo w (i_Mo w h)) hown hK hP 0 rfl rfl 34 (by decide) (hts _ (u_Mq_Mo _ k_Mo_41)) (fun _ h9 => h9) rfl d_Mo_make_318 ?_
        refine lv_aload_n hx hb d_Mo_make_321 rfl (lv_at hl 0 rfl) ?_
        refine va_get (D := (dC, dI)) (ci := 12) (v := .int S.v_folders) (C := R_Mo) (T := F_Mo) (N := 66) hx hb hts (fun w h => u_Mq_Mo w (i_Mo w h)) hown hK hP 0 rfl rfl 36 (by decide) (hts _ (u_Mq_Mo _ k_Mo_43)) (fun _ h9 => h9) rfl d_Mo_make_322 ?_
        refine lv_aload_n hx hb d_Mo_make_325 rfl (lv_at hl 0 rfl) ?_
        obtain ⟨r_46, S_46, hc_46, h⟩ := lf_cE h
        have hFc := lx_free hD hS hA
        refine va_calli (va_runV (As := []) (rest := [.int S.v_folders, .ref M.a_folder]) ⟨hx, hb, hml, hown, hts⟩ (l_Mo_take l dC dI X _ hc_46) (cwV 0 hts (gwV good_Mq (u_Mq_Mo _ k_Mo_331) (u_Mq_Mo _ k_Mo_332) (u_Mq_Mo _ k_Mo_517) (u_Mq_Mo _ k_Mo_0) (wcs (u_Mq_Mo _ k_Mo_333) (fun _ h => h))) rfl rfl rfl (by decide +kernel) ⟨Nat.le_of_ble_eq_true rfl, Nat.le_of_ble_eq_true rfl⟩) (pv_ofE (X.same _) (fun U z1 z2 => X.mono _ _ U hFc (hEw _ _ hS U z1 z2)) hP hK hD (va_recv hK hP (ci := 12) (q0 := 0) rfl rfl)) rfl rfl hl.1 rfl (lv_room (Nat.le_of_ble_eq_true rfl)) d_Mo_make_326 ⟨by decide, by decide⟩) hS (fun q _ h => hFc q h) hFc (fun r_ u t H locs ht hvm hw hB hz1 hk1 hS => ?_)
        rw [hw]
        obtain ⟨hP, -, hD⟩ := hB
        rw [ht] at hP
        have hD := lx_dj hD hFc
        obtain ⟨g_47, h⟩ := lf_gE h
        refine va_iast hx hb hK hP hD hS 16 15 rfl rfl g_47 d_Mo_make_329 (fun H locs hP hD hS => ?_)
        obtain ⟨S_48, eS_48, h⟩ := lf_lX h
        have hP := lx_newP eS_48 hP
        have hD := lx_newD eS_48 hD
        refine lv_aload_n hx hb d_Mo_make_330 rfl (lv_at hl 0 rfl) ?_
        refine lv_aload_n hx hb d_Mo_make_331 rfl (lv_at hl 0 rfl) ?_
        refine va_get (D := (dC, dI)) (ci := 12) (v := .ref M.a_folder) (C := R_Mo) (T := F_Mo) (N := 66) hx hb hts (fun w h => u_Mq_Mo w (i_Mo w h)) hown hK hP 0 rfl rfl 34 (by decide) (hts _ (u_Mq_Mo _ k_Mo_41)) (fun _ h9 => h9) rfl d_Mo_make_332 ?_
        refine lv_aload_n hx hb d_Mo_make_335 rfl (lv_at hl 0 rfl) ?_
        refine va_get (D := (dC, dI)) (ci := 12) (v := .int S_48.v_folders) (C := R_Mo) (T := F_Mo) (N := 66) hx hb hts (fun w h => u_Mq_Mo w (i_Mo w h)) hown hK hP 0 rfl rfl 36 (by decide) (hts _ (u_Mq_Mo _ k_Mo_43)) (fun _ h9 => h9) rfl d_Mo_make_336 ?_
        refine lv_iconst (v := 1) hx hb d_Mo_make_339 (by decide) ?_
        refine lv_isub hx hb d_Mo_make_340 ?_
        obtain ⟨g_49, h⟩ := lf_gE h
        refine va_iald hx hb hK hP 16 15 rfl rfl g_49 d_Mo_make_341 ?_
        refine lv_aload_n hx hb d_Mo_make_342 rfl (lv_at hl 0 rfl) ?_
        refine va_get (D := (dC, dI)) (ci := 12) (v := .ref M.a_folder) (C := R_Mo) (T := F_Mo) (N := 66) hx hb hts (fun w h => u_Mq_Mo w (i_Mo w h)) hown hK hP 0 rfl rfl 34 (by decide) (hts _ (u_Mq_Mo _ k_Mo_41)) (fun _ h9 => h9) rfl d_Mo_make_343 ?_
        refine lv_aload_n hx hb d_Mo_make_346 rfl (lv_at hl 0 rfl) ?_
        refine va_get (D := (dC, dI)) (ci := 12) (v := .int S_48.v_folders) (C := R_Mo) (T := F_Mo) (N := 66) hx hb hts (fun w h => u_Mq_Mo w (i_Mo w h)) hown hK hP 0 rfl rfl 36 (by decide) (hts _ (u_Mq_Mo _ k_Mo_43)) (fun _ h9 => h9) rfl d_Mo_make_347 ?_
        obtain ⟨g_50, h⟩ := lf_gE h
        refine va_iald hx hb hK hP 16 15 rfl rfl g_50 d_Mo_make_350 ?_
        obtain ⟨S_51, hc_51, h⟩ := lf_bE h
        have hFc := lx_free hD hS hA
        refine va_callv (va_runV (As := [.int (S_48.v_folder (S_48.v_folders - 1).toNatClampNeg), .int (S_48.v_folder S_48.v_folders.toNatClampNeg)]) (rest := []) ⟨hx, hb, hml, hown, hts⟩ (l_Mo_setEntry l dC dI X _ hc_51) (cwV 2 hts (gwV good_Mq (u_Mq_Mo _ k_Mo_231) (u_Mq_Mo _ k_Mo_232) (u_Mq_Mo _ k_Mo_481) (u_Mq_Mo _ k_Mo_0) (wcs (u_Mq_Mo _ k_Mo_233) (fun _ h => h))) rfl rfl rfl (by decide +kernel) ⟨Nat.le_of_ble_eq_true rfl, Nat.le_of_ble_eq_true rfl⟩) (pv_ofE (X.same _) (fun U z1 z2 => X.mono _ _ U hFc (hEw _ _ hS U z1 z2)) hP hK hD (va_recv hK hP (ci := 12) (q0 := 0) rfl rfl)) rfl rfl hl.1 rfl (lv_room (Nat.le_of_ble_eq_true rfl)) d_Mo_make_351 ⟨by decide, by decide⟩) hS (fun q _ h => hFc q h) hFc (fun u t H locs ht hvm hw hB hz1 hk1 hS => ?_)
        obtain ⟨hP, -, hD⟩ := hB
        rw [ht] at hP
        have hD := lx_dj hD hFc
        refine lv_aload_n hx hb d_Mo_make_354 rfl (lv_at hl 0 rfl) ?_
        refine lv_dup hx hb d_Mo_make_355 rfl ?_
        refine va_get (D := (dC, dI)) (ci := 12) (v := .int S_51.v_folders) (C := R_Mo) (T := F_Mo) (N := 66) hx hb hts (fun w h => u_Mq_Mo w (i_Mo w h)) hown hK hP 0 rfl rfl 36 (by decide) (hts _ (u_Mq_Mo _ k_Mo_43)) (fun _ h9 => h9) rfl d_Mo_make_356 ?_
        refine lv_iconst (v := 1) hx hb d_Mo_make_359 (by decide) ?_
        refine lv_iadd hx hb d_Mo_make_360 ?_
        refine va_put (D := (dC, dI)) (ci := 12) (v := .int (S_51.v_folders + 1)) (ty := .int) (C := R_Mo) (T := F_Mo) (N := 66) hx hb hts (fun w h => u_Mq_Mo w (i_Mo w h)) t_Mo t_Mo_ok n_Mo hown hK hP hD hS 0 rfl rfl 36 (by decide) (hts _ (u_Mq_Mo _ k_Mo_43)) (fun _ h9 => h9) rfl (by decide +kernel) rfl rfl (Nat.le_of_ble_eq_true rfl) d_Mo_make_361 (fun H locs hP hD hS => ?_)
        obtain ⟨S_52, eS_52, h⟩ := lf_lX h
        have hP := lx_newP eS_52 hP
        have hD := lx_newD eS_52 hD
        obtain ⟨x_53, ex_53, h⟩ := lf_lX h
        refine lv_iinc (v := x_53) (lv' := [(12, .int x_53), (0, .ref M.o), (1, .int y_1), (6, .int y_6), (7, .int y_7), (8, .int y_8), (9, .int y_9), (10, .int y_10), (11, .int y_11)]) hx hb d_Mo_make_364 hl (k := 8) rfl (by rw [ex_53]; rfl) (by decide) rfl (fun ls hl => ?_)
        refine lv_goto (tgt := 310) hx hb d_Mo_make_367 (by decide) ?_
        exact hr_310 y_1 y_6 y_7 y_8 y_9 y_10 y_11 x_53 S_52 _ _ _ h hP hD hS (lv_sub hl [1, 2, 3, 4, 5, 6, 7, 8, 0] rfl)
  have hB_305 : ∀ (y_1 : Int32) (y_6 : Int32) (y_7 : Int32) (y_8 : Int32) (y_9 : Int32) (y_10 : Int32) (z_0 : Int32) (S : MS) (H : Heap) (locs : List Loc) (ls : Array Slot), f_Mo_make_305 K y_1 y_6 y_7 y_8 y_9 y_10 z_0 S = some (r, S') → va_P (dC, dI) classes (wM M S) H → va_D A (wM M S) → va_S A s.heap H locs → lv_has ls 18 [(0, .ref M.o), (1, .int y_1), (6, .int y_6), (7, .int y_7), (8, .int y_8), (9, .int y_9), (10, .int y_10)] → W p l e ({ frames := 13, cells := 0, slots := 0, locals := 359 }) s m ([.ref M.o, .int p0] : List Value).toArray below meth c H locs 0 0 Q (F0 m 305 ls [.int z_0]) := by
    intro y_1 y_6 y_7 y_8 y_9 y_10 z_0 S H locs ls h hP hD hS hl
    rw [f_Mo_make_305] at h
    refine lv_istore (lv' := [(11, .int z_0), (0, .ref M.o), (1, .int y_1), (6, .int y_6), (7, .int y_7), (8, .int y_8), (9, .int y_9), (10, .int y_10)]) hx hb d_Mo_make_305 hl (by decide) rfl (fun ls hl => ?_)
    refine lv_iconst (v := 0) hx hb d_Mo_make_307 (by decide) ?_
    refine lv_istore (lv' := [(12, .int 0), (11, .int z_0), (0, .ref M.o), (1, .int y_1), (6, .int y_6), (7, .int y_7), (8, .int y_8), (9, .int y_9), (10, .int y_10)]) hx hb d_Mo_make_308 hl (by decide) rfl (fun ls hl => ?_)
    exact hB_310 K y_1 y_6 y_7 y_8 y_9 y_10 z_0 0 S _ _ _ h hP hD hS (lv_sub hl [2, 3, 4, 5, 6, 7, 8, 1, 0] rfl)
  have hB_284 : ∀ (y_1 : Int32) (y_6 : Int32) (y_7 : Int32) (y_8 : Int32) (y_9 : Int32) (y_10 : Int32) (z_1 : Int32) (S : MS) (H : Heap) (locs : List Loc) (ls : Array Slot), f_Mo_make_284 K y_1 y_6 y_7 y_8 y_9 y_10 z_1 S = some (r, S') → va_P (dC, dI) classes (wM M S) H → va_D A (wM M S) → va_S A s.heap H locs → lv_has ls 18 [(0, .ref M.o), (1, .int y_1), (6, .int y_6), (7, .int y_7), (8, .int y_8), (9, .int y_9), (10, .int y_10)] → W p l e ({ frames := 13, cells := 0, slots := 0, locals := 359 }) s m ([.ref M.o, .int p0] : List Value).toArray below meth c H locs 0 0 Q (F0 m 284 ls [.int z_1, .ref M.o]) := by
    intro y_1 y_6 y_7 y_8 y_9 y_10 z_1 S H locs ls h hP hD hS hl
    rw [f_Mo_make_284] at h
    refine lv_iconst (v := 3) hx hb d_Mo_make_284 (by decide) ?_
    obtain ⟨r_41, S_41, hc_41, h⟩ := lf_cE h
    have hFc := lx_free hD hS hA
    refine va_calli (va_runV (As := [.int z_1, .int 3]) (rest := []) ⟨hx, hb, hml, hown, hts⟩ (l_Mo_fails l dC dI X _ hc_41) (cwV 2 hts (gwV good_Mq (u_Mq_Mo _ k_Mo_217) (u_Mq_Mo _ k_Mo_218) (u_Mq_Mo _ k_Mo_474) (u_Mq_Mo _ k_Mo_0) (wcs (u_Mq_Mo _ k_Mo_219) (fun _ h => h))) rfl rfl rfl (by decide +kernel) ⟨Nat.le_of_ble_eq_true rfl, Nat.le_of_ble_eq_true rfl⟩) (pv_ofE (X.same _) (fun U z1 z2 => X.mono _ _ U hFc (hEw _ _ hS U z1 z2)) hP hK hD (va_recv hK hP (ci := 12) (q0 := 0) rfl rfl)) rfl rfl hl.1 rfl (lv_room (Nat.le_of_ble_eq_true rfl)) d_Mo_make_285 ⟨by decide, by decide⟩) hS (fun q _ h => hFc q h) hFc (fun r_ u t H locs ht hvm hw hB hz1 hk1 hS => ?_)
    rw [hw]
    obtain ⟨hP, -, hD⟩ := hB
    rw [ht] at hP
    have hD := lx_dj hD hFc
    refine lv_if_eq (tgt := 293) hx hb d_Mo_make_288 (by decide) (fun c_42 => ?_) (fun c_42 => ?_)
    · have h := lf_t h c_42
      refine lv_iload_n hx hb d_Mo_make_293 rfl (lv_at hl 1 rfl) ?_
      refine lv_if_eq (tgt := 304) hx hb d_Mo_make_294 (by decide) (fun c_43 => ?_) (fun c_43 => ?_)
      · have h := lf_t h c_43
        refine lv_iconst (v := 0) hx hb d_Mo_make_304 (by decide) ?_
        exact hB_305 y_1 y_6 y_7 y_8 y_9 y_10 0 S_41 _ _ _ h hP hD hS (lv_sub hl [0, 1, 2, 3, 4, 5, 6] rfl)
      · have h := lf_f h c_43
        refine lv_aload_n hx hb d_Mo_make_297 rfl (lv_at hl 0 rfl) ?_
        obtain ⟨r_44, S_44, hc_44, h⟩ := lf_cE h
        have hFc := lx_free hD hS hA
        refine va_calli (va_runV (As := []) (rest := []) ⟨hx, hb, hml, hown, hts⟩ (l_Mo_take l dC dI X _ hc_44) (cwV 0 hts (gwV good_Mq (u_Mq_Mo _ k_Mo_331) (u_Mq_Mo _ k_Mo_332) (u_Mq_Mo _ k_Mo_517) (u_Mq_Mo _ k_Mo_0) (wcs (u_Mq_Mo _ k_Mo_333) (fun _ h => h))) rfl rfl rfl (by decide +kernel) ⟨Nat.le_of_ble_eq_true rfl, Nat.le_of_ble_eq_true rfl⟩) (pv_ofE (X.same _) (fun U z1 z2 => X.mono _ _ U hFc (hEw _ _ hS U z1 z2)) hP hK hD (va_recv hK hP (ci := 12) (q0 := 0) rfl rfl)) rfl rfl hl.1 rfl (lv_room (Nat.le_of_ble_eq_true rfl)) d_Mo_make_298 ⟨by decide, by decide⟩) hS (fun q _ h => hFc q h) hFc (fun r_ u t H locs ht hvm hw hB hz1 hk1 hS => ?_)
        rw [hw]
        obtain ⟨hP, -, hD⟩ := hB
        rw [ht] at hP
        have hD := lx_dj hD hFc
        refine lv_goto (tgt := 305) hx hb d_Mo_make_301 (by decide) ?_
        exact hB_305 y_1 y_6 y_7 y_8 y_9 y_10 r_44 S_44 _ _ _ h hP hD hS (lv_sub hl [0, 1, 2, 3, 4, 5, 6] rfl)
    · have h := lf_f h c_42
      refine lv_iconst (v := 0) hx hb d_Mo_make_291 (by decide) ?_
      rw [hQ]
      have e1 : (0 : Int32) = r := congrArg Prod.fst (Option.some.inj h)
      have e2 : S_41 = S' := congrArg Prod.snd (Option.some.inj h)
      have hP := lx_newP e2.symm hP
      have hD := lx_newD e2.symm hD
      exact W.iret (v := 0) hx hb hr (fun t ht hW => ⟨⟨0, (), rfl, e1, by rw [ht]; exact hP, va_K.moved hW.alike hK, hD⟩, hS.F ht⟩) hS.2.2 d_Mo_make_292
  have hB_271 : ∀ (y_1 : Int32) (y_6 : Int32) (y_7 : Int32) (y_8 : Int32) (y_9 : Int32) (y_10 : Int32) (z_1 : Int32) (z_2 : Int32) (S : MS) (H : Heap) (locs : List Loc) (ls : Array Slot), f_Mo_make_271 K y_1 y_6 y_7 y_8 y_9 y_10 z_1 z_2 S = some (r, S') → va_P (dC, dI) classes (wM M S) H → va_D A (wM M S) → va_S A s.heap H locs → lv_has ls 18 [(0, .ref M.o), (1, .int y_1), (6, .int y_6), (7, .int y_7), (8, .int y_8), (9, .int y_9), (10, .int y_10)] → W p l e ({ frames := 13, cells := 0, slots := 0, locals := 359 }) s m ([.ref M.o, .int p0] : List Value).toArray below meth c H locs 0 0 Q (F0 m 271 ls [.int z_2, .int z_1, .ref M.o]) := by
    intro y_1 y_6 y_7 y_8 y_9 y_10 z_1 z_2 S H locs ls h hP hD hS hl
    rw [f_Mo_make_271] at h
    refine lv_iadd hx hb d_Mo_make_271 ?_
    refine lv_aload_n hx hb d_Mo_make_272 rfl (lv_at hl 0 rfl) ?_
    obtain ⟨r_39, S_39, hc_39, h⟩ := lf_cE h
    have hFc := lx_free hD hS hA
    refine va_calli (va_runV (As := []) (rest := [.int (z_1 + z_2), .ref M.o]) ⟨hx, hb, hml, hown, hts⟩ (l_Mo_free l dC dI X _ hc_39) (cwV 0 hts (gwV good_Mq (u_Mq_Mo _ k_Mo_328) (u_Mq_Mo _ k_Mo_329) (u_Mq_Mo _ k_Mo_516) (u_Mq_Mo _ k_Mo_0) (wcs (u_Mq_Mo _ k_Mo_330) (fun _ h => h))) rfl rfl rfl (by decide +kernel) ⟨Nat.le_of_ble_eq_true rfl, Nat.le_of_ble_eq_true rfl⟩) (pv_ofE (X.same _) (fun U z1 z2 => X.mono _ _ U hFc (hEw _ _ hS U z1 z2)) hP hK hD (va_recv hK hP (ci := 12) (q0 := 0) rfl rfl)) rfl rfl hl.1 rfl (lv_room (Nat.le_of_ble_eq_true rfl)) d_Mo_make_273 ⟨by decide, by decide⟩) hS (fun q _ h => hFc q h) hFc (fun r_ u t H locs ht hvm hw hB hz1 hk1 hS => ?_)
    rw [hw]
    obtain ⟨hP, -, hD⟩ := hB
    rw [ht] at hP
    have hD := lx_dj hD hFc
    refine lv_icmp_le (tgt := 283) hx hb d_Mo_make_276 (by decide) (fun c_40 => ?_) (fun c_40 => ?_)
    · have h := lf_t h c_40
      refine lv_iconst (v := 0) hx hb d_Mo_make_283 (by decide) ?_
      exact hB_284 y_1 y_6 y_7 y_8 y_9 y_10 0 S_39 _ _ _ h hP hD hS (lv_sub hl [0, 1, 2, 3, 4, 5, 6] rfl)
    · have h := lf_f h c_40
      refine lv_iconst (v := 1) hx hb d_Mo_make_279 (by decide) ?_
      refine lv_goto (tgt := 284) hx hb d_Mo_make_280 (by decide) ?_
      exact hB_284 y_1 y_6 y_7 y_8 y_9 y_10 1 S_39 _ _ _ h hP hD hS (lv_sub hl [0, 1, 2, 3, 4, 5, 6] rfl)
  have hB_257 : ∀ (y_1 : Int32) (y_6 : Int32) (y_7 : Int32) (y_8 : Int32) (y_9 : Int32) (z_0 : Int32) (S : MS) (H : Heap) (locs : List Loc) (ls : Array Slot), f_Mo_make_257 K y_1 y_6 y_7 y_8 y_9 z_0 S = some (r, S') → va_P (dC, dI) classes (wM M S) H → va_D A (wM M S) → va_S A s.heap H locs → lv_has ls 18 [(0, .ref M.o), (1, .int y_1), (6, .int y_6), (7, .int y_7), (8, .int y_8), (9, .int y_9)] → W p l e ({ frames := 13, cells := 0, slots := 0, locals := 359 }) s m ([.ref M.o, .int p0] : List Value).toArray below meth c H locs 0 0 Q (F0 m 257 ls [.int z_0]) := by
    intro y_1 y_6 y_7 y_8 y_9 z_0 S H locs ls h hP hD hS hl
    rw [f_Mo_make_257] at h
    refine lv_istore (lv' := [(10, .int z_0), (0, .ref M.o), (1, .int y_1), (6, .int y_6), (7, .int y_7), (8, .int y_8), (9, .int y_9)]) hx hb d_Mo_make_257 hl (by decide) rfl (fun ls hl => ?_)
    refine lv_aload_n hx hb d_Mo_make_259 rfl (lv_at hl 1 rfl) ?_
    refine lv_iload hx hb d_Mo_make_260 (lv_at hl 0 rfl) ?_
    refine lv_iload_n hx hb d_Mo_make_262 rfl (lv_at hl 2 rfl) ?_
    refine lv_if_eq (tgt := 270) hx hb d_Mo_make_263 (by decide) (fun c_38 => ?_) (fun c_38 => ?_)
    · have h := lf_t h c_38
      refine lv_iconst (v := 0) hx hb d_Mo_make_270 (by decide) ?_
      exact hB_271 y_1 y_6 y_7 y_8 y_9 z_0 z_0 0 S _ _ _ h hP hD hS (lv_sub hl [1, 2, 3, 4, 5, 6, 0] rfl)
    · have h := lf_f h c_38
      refine lv_iconst (v := 1) hx hb d_Mo_make_266 (by decide) ?_
      refine lv_goto (tgt := 271) hx hb d_Mo_make_267 (by decide) ?_
      exact hB_271 y_1 y_6 y_7 y_8 y_9 z_0 z_0 1 S _ _ _ h hP hD hS (lv_sub hl [1, 2, 3, 4, 5, 6, 0] rfl)
  have hB_225 : ∀ (y_1 : Int32) (y_6 : Int32) (y_7 : Int32) (y_8 : Int32) (y_9 : Int32) (S : MS) (H : Heap) (locs : List Loc) (ls : Array Slot), f_Mo_make_225 K y_1 y_6 y_7 y_8 y_9 S = some (r, S') → va_P (dC, dI) classes (wM M S) H → va_D A (wM M S) → va_S A s.heap H locs → lv_has ls 18 [(0, .ref M.o), (1, .int y_1), (6, .int y_6), (7, .int y_7), (8, .int y_8), (9, .int y_9)] → W p l e ({ frames := 13, cells := 0, slots := 0, locals := 359 }) s m ([.ref M.o, .int p0] : List Value).toArray below meth c H locs 0 0 Q (F0 m 225 ls []) := by
    intro y_1 y_6 y_7 y_8 y_9 S H locs ls h hP hD hS hl
    rw [f_Mo_make_225] at h
    refine lv_iload hx hb d_Mo_make_225 (lv_at hl 5 rfl) ?_
    refine lv_iload hx hb d_Mo_make_227 (lv_at hl 2 rfl) ?_
    refine lv_iadd hx hb d_Mo_make_229 ?_
    refine lv_iload hx hb d_Mo_make_230 (lv_at hl 3 rfl) ?_
    refine lv_icmp_le (tgt := 256) hx hb d_Mo_make_232 (by decide) (fun c_35 => ?_) (fun c_35 => ?_)
    · have h := lf_t h c_35
      refine lv_iconst (v := 0) hx hb d_Mo_make_256 (by decide) ?_
      exact hB_257 y_1 y_6 y_7 y_8 y_9 0 S _ _ _ h hP hD hS (lv_sub hl [0, 1, 2, 3, 4, 5] rfl)
    · have h := lf_f h c_35
      refine lv_iload hx hb d_Mo_make_235 (lv_at hl 5 rfl) ?_
      refine lv_iload hx hb d_Mo_make_237 (lv_at hl 2 rfl) ?_
      refine lv_iadd hx hb d_Mo_make_239 ?_
      refine lv_iload hx hb d_Mo_make_240 (lv_at hl 3 rfl) ?_
      refine lv_isub hx hb d_Mo_make_242 ?_
      refine lv_bipush (v := 16) hx hb d_Mo_make_243 (by decide) ?_
      refine lv_aload_n hx hb d_Mo_make_245 rfl (lv_at hl 0 rfl) ?_
      refine va_get (D := (dC, dI)) (ci := 12) (v := .int S.v_c) (C := R_Mo) (T := F_Mo) (N := 66) hx hb hts (fun w h => u_Mq_Mo w (i_Mo w h)) hown hK hP 0 rfl rfl 11 (by decide) (hts _ (u_Mq_Mo _ k_Mo_18)) (fun _ h9 => h9) rfl d_Mo_make_246 ?_
      refine lv_imul hx hb d_Mo_make_249 ?_
      obtain ⟨r_36, hc_36, h⟩ := lf_bE h
      have hFc := lx_free0 hS hA
      refine va_calli (va_runS (As := [.int ((y_9 + y_6) - y_7), .int (16 * S.v_c)]) (rest := []) ⟨hx, hb, hml, hown, hts⟩ (l_Mo_whole l dC dI  _ hc_36) (va_cwS 2 hts (gwS good_Mq (u_Mq_Mo _ k_Mo_178) (u_Mq_Mo _ k_Mo_179) (u_Mq_Mo _ k_Mo_0) (wcs (u_Mq_Mo _ k_Mo_180) (fun _ h => h))) rfl rfl rfl (by decide +kernel) ⟨Nat.le_of_ble_eq_true rfl, Nat.le_of_ble_eq_true rfl⟩) (ps_of (W := []) (tys := []) (hP.sub (ws' := []) [] rfl) (hK.sub [] rfl) (hD.sub (ws' := []) [] (by decide) rfl)) rfl rfl hl.1 rfl (lv_room (Nat.le_of_ble_eq_true rfl)) d_Mo_make_250 ⟨by decide, by decide⟩) hS (fun q _ h => hFc q h) hFc (fun r_ u t H locs ht hvm hw hB hz1 hk1 hS => ?_)
      rw [hw]
      have hP := lx_stat (A := A) hP hk1
      refine lv_goto (tgt := 257) hx hb d_Mo_make_253 (by decide) ?_
      exact hB_257 y_1 y_6 y_7 y_8 y_9 r_36 S _ _ _ h hP hD hS (lv_sub hl [0, 1, 2, 3, 4, 5] rfl)
  have hB_173 : ∀ (k : Nat), ∀ (y_1 : Int32) (y_6 : Int32) (y_7 : Int32) (y_8 : Int32) (y_9 : Int32) (y_10 : Int32) (S : MS) (H : Heap) (locs : List Loc) (ls : Array Slot), f_Mo_make_173 K k y_1 y_6 y_7 y_8 y_9 y_10 S = some (r, S') → va_P (dC, dI) classes (wM M S) H → va_D A (wM M S) → va_S A s.heap H locs → lv_has ls 18 [(0, .ref M.o), (1, .int y_1), (6, .int y_6), (7, .int y_7), (8, .int y_8), (9, .int y_9), (10, .int y_10)] → W p l e ({ frames := 13, cells := 0, slots := 0, locals := 359 }) s m ([.ref M.o, .int p0] : List Value).toArray below meth c H locs 0 0 Q (F0 m 173 ls []) := by
    intro k
    induction k with
    | zero => intro y_1 y_6 y_7 y_8 y_9 y_10 S H locs ls h; exact lf_no h
    | succ k hr_173 =>
      intro y_1 y_6 y_7 y_8 y_9 y_10 S H locs ls h hP hD hS hl
      rw [f_Mo_make_173] at h
      refine lv_iload hx hb d_Mo_make_173 (lv_at hl 6 rfl) ?_
      refine lv_iload hx hb d_Mo_make_175 (lv_at hl 3 rfl) ?_
      refine lv_icmp_ge (tgt := 225) hx hb d_Mo_make_177 (by decide) (fun c_28 => ?_) (fun c_28 => ?_)
      · have h := lf_t h c_28
        exact hB_225 y_1 y_6 y_7 y_8 y_9 S _ _ _ h hP hD hS (lv_sub hl [0, 1, 2, 3, 4, 5] rfl)
      · have h := lf_f h c_28
        refine lv_iload hx hb d_Mo_make_180 (lv_at hl 6 rfl) ?_
        refine lv_iload hx hb d_Mo_make_182 (lv_at hl 5 rfl) ?_
        refine lv_isub hx hb d_Mo_make_184 ?_
        refine lv_iload hx hb d_Mo_make_185 (lv_at hl 2 rfl) ?_
        refine lv_icmp_ge (tgt := 225) hx hb d_Mo_make_187 (by decide) (fun c_29 => ?_) (fun c_29 => ?_)
        · have h := lf_t h c_29
          exact hB_225 y_1 y_6 y_7 y_8 y_9 S _ _ _ h hP hD hS (lv_sub hl [0, 1, 2, 3, 4, 5] rfl)
        · have h := lf_f h c_29
          refine lv_iload hx hb d_Mo_make_190 (lv_at hl 6 rfl) ?_
          refine lv_iload hx hb d_Mo_make_192 (lv_at hl 4 rfl) ?_
          refine lv_icmp_ge (tgt := 219) hx hb d_Mo_make_194 (by decide) (fun c_30 => ?_) (fun c_30 => ?_)
          · have h := lf_t h c_30
            exact hB_219 _ hr_173 y_1 y_6 y_7 y_8 y_9 y_10 S _ _ _ h hP hD hS (lv_sub hl [0, 1, 2, 3, 4, 5, 6] rfl)
          · have h := lf_f h c_30
            refine lv_aload_n hx hb d_Mo_make_197 rfl (lv_at hl 0 rfl) ?_
            refine lv_aload_n hx hb d_Mo_make_198 rfl (lv_at hl 0 rfl) ?_
            refine lv_iload hx hb d_Mo_make_199 (lv_at hl 6 rfl) ?_
            obtain ⟨r_31, S_31, hc_31, h⟩ := lf_cE h
            have hFc := lx_free hD hS hA
            refine va_calli (va_runV (As := [.int y_10]) (rest := [.ref M.o]) ⟨hx, hb, hml, hown, hts⟩ (l_Mo_slotAt l dC dI X _ hc_31) (cwV 1 hts (gwV good_Mq (u_Mq_Mo _ k_Mo_133) (u_Mq_Mo _ k_Mo_134) (u_Mq_Mo _ k_Mo_491) (u_Mq_Mo _ k_Mo_0) (wcs (u_Mq_Mo _ k_Mo_135) (fun _ h => h))) rfl rfl rfl (by decide +kernel) ⟨Nat.le_of_ble_eq_true rfl, Nat.le_of_ble_eq_true rfl⟩) (pv_ofE (X.same _) (fun U z1 z2 => X.mono _ _ U hFc (hEw _ _ hS U z1 z2)) hP hK hD (va_recv hK hP (ci := 12) (q0 := 0) rfl rfl)) rfl rfl hl.1 rfl (lv_room (Nat.le_of_ble_eq_true rfl)) d_Mo_make_201 ⟨by decide, by decide⟩) hS (fun q _ h => hFc q h) hFc (fun r_ u t H locs ht hvm hw hB hz1 hk1 hS => ?_)
            rw [hw]
            obtain ⟨hP, -, hD⟩ := hB
            rw [ht] at hP
            have hD := lx_dj hD hFc
            obtain ⟨r_32, S_32, hc_32, h⟩ := lf_cE h
            have hFc := lx_free hD hS hA
            refine va_calli (va_runV (As := [.int r_31]) (rest := []) ⟨hx, hb, hml, hown, hts⟩ (l_Mo_one l dC dI X _ hc_32) (cwV 1 hts (gwV good_Mq (u_Mq_Mo _ k_Mo_94) (u_Mq_Mo _ k_Mo_95) (u_Mq_Mo _ k_Mo_475) (u_Mq_Mo _ k_Mo_0) (wcs (u_Mq_Mo _ k_Mo_96) (fun _ h => h))) rfl rfl rfl (by decide +kernel) ⟨Nat.le_of_ble_eq_true rfl, Nat.le_of_ble_eq_true rfl⟩) (pv_ofE (X.same _) (fun U z1 z2 => X.mono _ _ U hFc (hEw _ _ hS U z1 z2)) hP hK hD (va_recv hK hP (ci := 12) (q0 := 0) rfl rfl)) rfl rfl hl.1 rfl (lv_room (Nat.le_of_ble_eq_true rfl)) d_Mo_make_204 ⟨by decide, by decide⟩) hS (fun q _ h => hFc q h) hFc (fun r_ u t H locs ht hvm hw hB hz1 hk1 hS => ?_)
            rw [hw]
            obtain ⟨hP, -, hD⟩ := hB
            rw [ht] at hP
            have hD := lx_dj hD hFc
            refine lv_sipush (v := 229) hx hb d_Mo_make_207 (by decide) ?_
            refine lv_icmp_eq (tgt := 219) hx hb d_Mo_make_210 (by decide) (fun c_33 => ?_) (fun c_33 => ?_)
            · have h := lf_t h c_33
              exact hB_219 _ hr_173 y_1 y_6 y_7 y_8 y_9 y_10 S_32 _ _ _ h hP hD hS (lv_sub hl [0, 1, 2, 3, 4, 5, 6] rfl)
            · have h := lf_f h c_33
              refine lv_iload hx hb d_Mo_make_213 (lv_at hl 6 rfl) ?_
              refine lv_iconst (v := 1) hx hb d_Mo_make_215 (by decide) ?_
              refine lv_iadd hx hb d_Mo_make_216 ?_
              refine lv_topi (fun x_34 ex_34 => ?_)
              have h := lf_lE h ex_34
              refine lv_istore (lv' := [(9, .int x_34), (0, .ref M.o), (1, .int y_1), (6, .int y_6), (7, .int y_7), (8, .int y_8), (10, .int y_10)]) hx hb d_Mo_make_217 hl (by decide) rfl (fun ls hl => ?_)
              exact hB_219 _ hr_173 y_1 y_6 y_7 y_8 x_34 y_10 S_32 _ _ _ h hP hD hS (lv_sub hl [1, 2, 3, 4, 5, 0, 6] rfl)
  have hB_167 : ∀ (y_1 : Int32) (y_6 : Int32) (y_7 : Int32) (y_8 : Int32) (S : MS) (H : Heap) (locs : List Loc) (ls : Array Slot), f_Mo_make_167 K y_1 y_6 y_7 y_8 S = some (r, S') → va_P (dC, dI) classes (wM M S) H → va_D A (wM M S) → va_S A s.heap H locs → lv_has ls 18 [(0, .ref M.o), (1, .int y_1), (6, .int y_6), (7, .int y_7), (8, .int y_8)] → W p l e ({ frames := 13, cells := 0, slots := 0, locals := 359 }) s m ([.ref M.o, .int p0] : List Value).toArray below meth c H locs 0 0 Q (F0 m 167 ls []) := by
    intro y_1 y_6 y_7 y_8 S H locs ls h hP hD hS hl
    rw [f_Mo_make_167] at h
    refine lv_iconst (v := 0) hx hb d_Mo_make_167 (by decide) ?_
    refine lv_istore (lv' := [(9, .int 0), (0, .ref M.o), (1, .int y_1), (6, .int y_6), (7, .int y_7), (8, .int y_8)]) hx hb d_Mo_make_168 hl (by decide) rfl (fun ls hl => ?_)
    refine lv_iconst (v := 0) hx hb d_Mo_make_170 (by decide) ?_
    refine lv_istore (lv' := [(10, .int 0), (9, .int 0), (0, .ref M.o), (1, .int y_1), (6, .int y_6), (7, .int y_7), (8, .int y_8)]) hx hb d_Mo_make_171 hl (by decide) rfl (fun ls hl => ?_)
    exact hB_173 K y_1 y_6 y_7 y_8 0 0 S _ _ _ h hP hD hS (lv_sub hl [2, 3, 4, 5, 6, 1, 0] rfl)
  have hB_141 : ∀ (k : Nat), ∀ (y_1 : Int32) (y_6 : Int32) (y_7 : Int32) (y_8 : Int32) (S : MS) (H : Heap) (locs : List Loc) (ls : Array Slot), f_Mo_make_141 K k y_1 y_6 y_7 y_8 S = some (r, S') → va_P (dC, dI) classes (wM M S) H → va_D A (wM M S) → va_S A s.heap H locs → lv_has ls 18 [(0, .ref M.o), (1, .int y_1), (6, .int y_6), (7, .int y_7), (8, .int y_8)] → W p l e ({ frames := 13, cells := 0, slots := 0, locals := 359 }) s m ([.ref M.o, .int p0] : List Value).toArray below meth c H locs 0 0 Q (F0 m 141 ls []) := by
    intro k
    induction k with
    | zero => intro y_1 y_6 y_7 y_8 S H locs ls h; exact lf_no h
    | succ k hr_141 =>
      intro y_1 y_6 y_7 y_8 S H locs ls h hP hD hS hl
      rw [f_Mo_make_141] at h
      refine lv_iload hx hb d_Mo_make_141 (lv_at hl 4 rfl) ?_
      refine lv_iload hx hb d_Mo_make_143 (lv_at hl 3 rfl) ?_
      refine lv_icmp_ge (tgt := 167) hx hb d_Mo_make_145 (by decide) (fun c_23 => ?_) (fun c_23 => ?_)
      · have h := lf_t h c_23
        exact hB_167 y_1 y_6 y_7 y_8 S _ _ _ h hP hD hS (lv_sub hl [0, 1, 2, 3, 4] rfl)
      · have h := lf_f h c_23
        refine lv_aload_n hx hb d_Mo_make_148 rfl (lv_at hl 0 rfl) ?_
        refine lv_aload_n hx hb d_Mo_make_149 rfl (lv_at hl 0 rfl) ?_
        refine lv_iload hx hb d_Mo_make_150 (lv_at hl 4 rfl) ?_
        obtain ⟨r_24, S_24, hc_24, h⟩ := lf_cE h
        have hFc := lx_free hD hS hA
        refine va_calli (va_runV (As := [.int y_8]) (rest := [.ref M.o]) ⟨hx, hb, hml, hown, hts⟩ (l_Mo_slotAt l dC dI X _ hc_24) (cwV 1 hts (gwV good_Mq (u_Mq_Mo _ k_Mo_133) (u_Mq_Mo _ k_Mo_134) (u_Mq_Mo _ k_Mo_491) (u_Mq_Mo _ k_Mo_0) (wcs (u_Mq_Mo _ k_Mo_135) (fun _ h => h))) rfl rfl rfl (by decide +kernel) ⟨Nat.le_of_ble_eq_true rfl, Nat.le_of_ble_eq_true rfl⟩) (pv_ofE (X.same _) (fun U z1 z2 => X.mono _ _ U hFc (hEw _ _ hS U z1 z2)) hP hK hD (va_recv hK hP (ci := 12) (q0 := 0) rfl rfl)) rfl rfl hl.1 rfl (lv_room (Nat.le_of_ble_eq_true rfl)) d_Mo_make_152 ⟨by decide, by decide⟩) hS (fun q _ h => hFc q h) hFc (fun r_ u t H locs ht hvm hw hB hz1 hk1 hS => ?_)
        rw [hw]
        obtain ⟨hP, -, hD⟩ := hB
        rw [ht] at hP
        have hD := lx_dj hD hFc
        obtain ⟨r_25, S_25, hc_25, h⟩ := lf_cE h
        have hFc := lx_free hD hS hA
        refine va_calli (va_runV (As := [.int r_24]) (rest := []) ⟨hx, hb, hml, hown, hts⟩ (l_Mo_one l dC dI X _ hc_25) (cwV 1 hts (gwV good_Mq (u_Mq_Mo _ k_Mo_94) (u_Mq_Mo _ k_Mo_95) (u_Mq_Mo _ k_Mo_475) (u_Mq_Mo _ k_Mo_0) (wcs (u_Mq_Mo _ k_Mo_96) (fun _ h => h))) rfl rfl rfl (by decide +kernel) ⟨Nat.le_of_ble_eq_true rfl, Nat.le_of_ble_eq_true rfl⟩) (pv_ofE (X.same _) (fun U z1 z2 => X.mono _ _ U hFc (hEw _ _ hS U z1 z2)) hP hK hD (va_recv hK hP (ci := 12) (q0 := 0) rfl rfl)) rfl rfl hl.1 rfl (lv_room (Nat.le_of_ble_eq_true rfl)) d_Mo_make_155 ⟨by decide, by decide⟩) hS (fun q _ h => hFc q h) hFc (fun r_ u t H locs ht hvm hw hB hz1 hk1 hS => ?_)
        rw [hw]
        obtain ⟨hP, -, hD⟩ := hB
        rw [ht] at hP
        have hD := lx_dj hD hFc
        refine lv_if_eq (tgt := 167) hx hb d_Mo_make_158 (by decide) (fun c_26 => ?_) (fun c_26 => ?_)
        · have h := lf_t h c_26
          exact hB_167 y_1 y_6 y_7 y_8 S_25 _ _ _ h hP hD hS (lv_sub hl [0, 1, 2, 3, 4] rfl)
        · have h := lf_f h c_26
          obtain ⟨x_27, ex_27, h⟩ := lf_lX h
          refine lv_iinc (v := x_27) (lv' := [(8, .int x_27), (0, .ref M.o), (1, .int y_1), (6, .int y_6), (7, .int y_7)]) hx hb d_Mo_make_161 hl (k := 4) rfl (by rw [ex_27]; rfl) (by decide) rfl (fun ls hl => ?_)
          refine lv_goto (tgt := 141) hx hb d_Mo_make_164 (by decide) ?_
          exact hr_141 y_1 y_6 y_7 x_27 S_25 _ _ _ h hP hD hS (lv_sub hl [1, 2, 3, 4, 0] rfl)
  have hB_116 : ∀ (y_1 : Int32) (y_4 : Int32) (z_0 : Int32) (S : MS) (H : Heap) (locs : List Loc) (ls : Array Slot), f_Mo_make_116 K y_1 y_4 z_0 S = some (r, S') → va_P (dC, dI) classes (wM M S) H → va_D A (wM M S) → va_S A s.heap H locs → lv_has ls 18 [(0, .ref M.o), (1, .int y_1), (4, .int y_4)] → W p l e ({ frames := 13, cells := 0, slots := 0, locals := 359 }) s m ([.ref M.o, .int p0] : List Value).toArray below meth c H locs 0 0 Q (F0 m 116 ls [.int z_0]) := by
    intro y_1 y_4 z_0 S H locs ls h hP hD hS hl
    rw [f_Mo_make_116] at h
    refine lv_istore (lv' := [(6, .int z_0), (0, .ref M.o), (1, .int y_1), (4, .int y_4)]) hx hb d_Mo_make_116 hl (by decide) rfl (fun ls hl => ?_)
    refine lv_aload_n hx hb d_Mo_make_118 rfl (lv_at hl 1 rfl) ?_
    refine lv_iload hx hb d_Mo_make_119 (lv_at hl 3 rfl) ?_
    obtain ⟨S_21, hc_21, h⟩ := lf_bE h
    have hFc := lx_free hD hS hA
    refine va_callv (va_runV (As := [.int y_4]) (rest := []) ⟨hx, hb, hml, hown, hts⟩ (l_Mo_loadFolder l dC dI X _ hc_21) (cwV 1 hts (gwV good_Mq (u_Mq_Mo _ k_Mo_325) (u_Mq_Mo _ k_Mo_326) (u_Mq_Mo _ k_Mo_493) (u_Mq_Mo _ k_Mo_0) (wcs (u_Mq_Mo _ k_Mo_327) (fun _ h => h))) rfl rfl rfl (by decide +kernel) ⟨Nat.le_of_ble_eq_true rfl, Nat.le_of_ble_eq_true rfl⟩) (pv_ofE (X.same _) (fun U z1 z2 => X.mono _ _ U hFc (hEw _ _ hS U z1 z2)) hP hK hD (va_recv hK hP (ci := 12) (q0 := 0) rfl rfl)) rfl rfl hl.1 rfl (lv_room (Nat.le_of_ble_eq_true rfl)) d_Mo_make_121 ⟨by decide, by decide⟩) hS (fun q _ h => hFc q h) hFc (fun u t H locs ht hvm hw hB hz1 hk1 hS => ?_)
    obtain ⟨hP, -, hD⟩ := hB
    rw [ht] at hP
    have hD := lx_dj hD hFc
    refine lv_aload_n hx hb d_Mo_make_124 rfl (lv_at hl 1 rfl) ?_
    refine va_get (D := (dC, dI)) (ci := 12) (v := .int S_21.v_folders) (C := R_Mo) (T := F_Mo) (N := 66) hx hb hts (fun w h => u_Mq_Mo w (i_Mo w h)) hown hK hP 0 rfl rfl 36 (by decide) (hts _ (u_Mq_Mo _ k_Mo_43)) (fun _ h9 => h9) rfl d_Mo_make_125 ?_
    refine lv_bipush (v := 16) hx hb d_Mo_make_128 (by decide) ?_
    refine lv_imul hx hb d_Mo_make_130 ?_
    refine lv_aload_n hx hb d_Mo_make_131 rfl (lv_at hl 1 rfl) ?_
    refine va_get (D := (dC, dI)) (ci := 12) (v := .int S_21.v_c) (C := R_Mo) (T := F_Mo) (N := 66) hx hb hts (fun w h => u_Mq_Mo w (i_Mo w h)) hown hK hP 0 rfl rfl 11 (by decide) (hts _ (u_Mq_Mo _ k_Mo_18)) (fun _ h9 => h9) rfl d_Mo_make_132 ?_
    refine lv_imul hx hb d_Mo_make_135 ?_
    refine lv_topi (fun x_22 ex_22 => ?_)
    have h := lf_lE h ex_22
    refine lv_istore (lv' := [(7, .int x_22), (6, .int z_0), (0, .ref M.o), (1, .int y_1), (4, .int y_4)]) hx hb d_Mo_make_136 hl (by decide) rfl (fun ls hl => ?_)
    refine lv_iconst (v := 0) hx hb d_Mo_make_138 (by decide) ?_
    refine lv_istore (lv' := [(8, .int 0), (7, .int x_22), (6, .int z_0), (0, .ref M.o), (1, .int y_1), (4, .int y_4)]) hx hb d_Mo_make_139 hl (by decide) rfl (fun ls hl => ?_)
    exact hB_141 K y_1 z_0 x_22 0 S_21 _ _ _ h hP hD hS (lv_sub hl [3, 4, 2, 1, 0] rfl)
  have hB_96 : ∀ (y_1 : Int32) (y_4 : Int32) (y_5 : Int32) (S : MS) (H : Heap) (locs : List Loc) (ls : Array Slot), f_Mo_make_96 K y_1 y_4 y_5 S = some (r, S') → va_P (dC, dI) classes (wM M S) H → va_D A (wM M S) → va_S A s.heap H locs → lv_has ls 18 [(0, .ref M.o), (1, .int y_1), (4, .int y_4), (5, .int y_5)] → W p l e ({ frames := 13, cells := 0, slots := 0, locals := 359 }) s m ([.ref M.o, .int p0] : List Value).toArray below meth c H locs 0 0 Q (F0 m 96 ls []) := by
    intro y_1 y_4 y_5 S H locs ls h hP hD hS hl
    rw [f_Mo_make_96] at h
    refine lv_iload hx hb d_Mo_make_96 (lv_at hl 3 rfl) ?_
    refine lv_if_eq (tgt := 105) hx hb d_Mo_make_98 (by decide) (fun c_19 => ?_) (fun c_19 => ?_)
    · have h := lf_t h c_19
      refine lv_iconst (v := 1) hx hb d_Mo_make_105 (by decide) ?_
      refine lv_aload_n hx hb d_Mo_make_106 rfl (lv_at hl 0 rfl) ?_
      refine va_get (D := (dC, dI)) (ci := 12) (v := .int S.v_size) (C := R_Mo) (T := F_Mo) (N := 66) hx hb hts (fun w h => u_Mq_Mo w (i_Mo w h)) hown hK hP 0 rfl rfl 39 (by decide) (hts _ (u_Mq_Mo _ k_Mo_46)) (fun _ h9 => h9) rfl d_Mo_make_107 ?_
      refine lv_bipush (v := 13) hx hb d_Mo_make_110 (by decide) ?_
      obtain ⟨r_20, hc_20, h⟩ := lf_bE h
      have hFc := lx_free0 hS hA
      refine va_calli (va_runS (As := [.int S.v_size, .int 13]) (rest := [.int 1]) ⟨hx, hb, hml, hown, hts⟩ (l_Mo_whole l dC dI  _ hc_20) (va_cwS 2 hts (gwS good_Mq (u_Mq_Mo _ k_Mo_178) (u_Mq_Mo _ k_Mo_179) (u_Mq_Mo _ k_Mo_0) (wcs (u_Mq_Mo _ k_Mo_180) (fun _ h => h))) rfl rfl rfl (by decide +kernel) ⟨Nat.le_of_ble_eq_true rfl, Nat.le_of_ble_eq_true rfl⟩) (ps_of (W := []) (tys := []) (hP.sub (ws' := []) [] rfl) (hK.sub [] rfl) (hD.sub (ws' := []) [] (by decide) rfl)) rfl rfl hl.1 rfl (lv_room (Nat.le_of_ble_eq_true rfl)) d_Mo_make_112 ⟨by decide, by decide⟩) hS (fun q _ h => hFc q h) hFc (fun r_ u t H locs ht hvm hw hB hz1 hk1 hS => ?_)
      rw [hw]
      have hP := lx_stat (A := A) hP hk1
      refine lv_iadd hx hb d_Mo_make_115 ?_
      exact hB_116 y_1 y_4 (1 + r_20) S _ _ _ h hP hD hS (lv_sub hl [0, 1, 2] rfl)
    · have h := lf_f h c_19
      refine lv_iconst (v := 1) hx hb d_Mo_make_101 (by decide) ?_
      refine lv_goto (tgt := 116) hx hb d_Mo_make_102 (by decide) ?_
      exact hB_116 y_1 y_4 1 S _ _ _ h hP hD hS (lv_sub hl [0, 1, 2] rfl)
  have hB_76 : ∀ (y_1 : Int32) (y_4 : Int32) (y_5 : Int32) (z_1 : Int32) (S : MS) (H : Heap) (locs : List Loc) (ls : Array Slot), f_Mo_make_76 K y_1 y_4 y_5 z_1 S = some (r, S') → va_P (dC, dI) classes (wM M S) H → va_D A (wM M S) → va_S A s.heap H locs → lv_has ls 18 [(0, .ref M.o), (1, .int y_1), (4, .int y_4), (5, .int y_5)] → W p l e ({ frames := 13, cells := 0, slots := 0, locals := 359 }) s m ([.ref M.o, .int p0] : List Value).toArray below meth c H locs 0 0 Q (F0 m 76 ls [.int z_1, .ref M.o]) := by
    intro y_1 y_4 y_5 z_1 S H locs ls h hP hD hS hl
    rw [f_Mo_make_76] at h
    refine lv_iconst (v := 2) hx hb d_Mo_make_76 (by decide) ?_
    obtain ⟨r_15, S_15, hc_15, h⟩ := lf_cE h
    have hFc := lx_free hD hS hA
    refine va_calli (va_runV (As := [.int z_1, .int 2]) (rest := []) ⟨hx, hb, hml, hown, hts⟩ (l_Mo_fails l dC dI X _ hc_15) (cwV 2 hts (gwV good_Mq (u_Mq_Mo _ k_Mo_217) (u_Mq_Mo _ k_Mo_218) (u_Mq_Mo _ k_Mo_474) (u_Mq_Mo _ k_Mo_0) (wcs (u_Mq_Mo _ k_Mo_219) (fun _ h => h))) rfl rfl rfl (by decide +kernel) ⟨Nat.le_of_ble_eq_true rfl, Nat.le_of_ble_eq_true rfl⟩) (pv_ofE (X.same _) (fun U z1 z2 => X.mono _ _ U hFc (hEw _ _ hS U z1 z2)) hP hK hD (va_recv hK hP (ci := 12) (q0 := 0) rfl rfl)) rfl rfl hl.1 rfl (lv_room (Nat.le_of_ble_eq_true rfl)) d_Mo_make_77 ⟨by decide, by decide⟩) hS (fun q _ h => hFc q h) hFc (fun r_ u t H locs ht hvm hw hB hz1 hk1 hS => ?_)
    rw [hw]
    obtain ⟨hP, -, hD⟩ := hB
    rw [ht] at hP
    have hD := lx_dj hD hFc
    refine lv_if_eq (tgt := 85) hx hb d_Mo_make_80 (by decide) (fun c_16 => ?_) (fun c_16 => ?_)
    · have h := lf_t h c_16
      refine lv_iload hx hb d_Mo_make_85 (lv_at hl 3 rfl) ?_
      refine lv_if_ne (tgt := 96) hx hb d_Mo_make_87 (by decide) (fun c_17 => ?_) (fun c_17 => ?_)
      · have h := lf_f h c_17
        exact hB_96 y_1 y_4 y_5 S_15 _ _ _ h hP hD hS (lv_sub hl [0, 1, 2, 3] rfl)
      · have h := lf_t h c_17
        refine lv_aload_n hx hb d_Mo_make_90 rfl (lv_at hl 0 rfl) ?_
        refine lv_iload hx hb d_Mo_make_91 (lv_at hl 2 rfl) ?_
        obtain ⟨S_18, hc_18, h⟩ := lf_bE h
        have hFc := lx_free hD hS hA
        refine va_callv (va_runV (As := [.int y_4]) (rest := []) ⟨hx, hb, hml, hown, hts⟩ (l_Mo_shorten l dC dI X _ hc_18) (cwV 1 hts (gwV good_Mq (u_Mq_Mo _ k_Mo_319) (u_Mq_Mo _ k_Mo_320) (u_Mq_Mo _ k_Mo_521) (u_Mq_Mo _ k_Mo_0) (wcs (u_Mq_Mo _ k_Mo_321) (fun _ h => h))) rfl rfl rfl (by decide +kernel) ⟨Nat.le_of_ble_eq_true rfl, Nat.le_of_ble_eq_true rfl⟩) (pv_ofE (X.same _) (fun U z1 z2 => X.mono _ _ U hFc (hEw _ _ hS U z1 z2)) hP hK hD (va_recv hK hP (ci := 12) (q0 := 0) rfl rfl)) rfl rfl hl.1 rfl (lv_room (Nat.le_of_ble_eq_true rfl)) d_Mo_make_93 ⟨by decide, by decide⟩) hS (fun q _ h => hFc q h) hFc (fun u t H locs ht hvm hw hB hz1 hk1 hS => ?_)
        obtain ⟨hP, -, hD⟩ := hB
        rw [ht] at hP
        have hD := lx_dj hD hFc
        exact hB_96 y_1 y_4 y_5 S_18 _ _ _ h hP hD hS (lv_sub hl [0, 1, 2, 3] rfl)
    · have h := lf_f h c_16
      refine lv_iconst (v := 0) hx hb d_Mo_make_83 (by decide) ?_
      rw [hQ]
      have e1 : (0 : Int32) = r := congrArg Prod.fst (Option.some.inj h)
      have e2 : S_15 = S' := congrArg Prod.snd (Option.some.inj h)
      have hP := lx_newP e2.symm hP
      have hD := lx_newD e2.symm hD
      exact W.iret (v := 0) hx hb hr (fun t ht hW => ⟨⟨0, (), rfl, e1, by rw [ht]; exact hP, va_K.moved hW.alike hK, hD⟩, hS.F ht⟩) hS.2.2 d_Mo_make_84
  have hB_75 : ∀ (y_1 : Int32) (y_4 : Int32) (y_5 : Int32) (S : MS) (H : Heap) (locs : List Loc) (ls : Array Slot), f_Mo_make_75 K y_1 y_4 y_5 S = some (r, S') → va_P (dC, dI) classes (wM M S) H → va_D A (wM M S) → va_S A s.heap H locs → lv_has ls 18 [(0, .ref M.o), (1, .int y_1), (4, .int y_4), (5, .int y_5)] → W p l e ({ frames := 13, cells := 0, slots := 0, locals := 359 }) s m ([.ref M.o, .int p0] : List Value).toArray below meth c H locs 0 0 Q (F0 m 75 ls [.ref M.o]) := by
    intro y_1 y_4 y_5 S H locs ls h hP hD hS hl
    rw [f_Mo_make_75] at h
    refine lv_iconst (v := 0) hx hb d_Mo_make_75 (by decide) ?_
    exact hB_76 y_1 y_4 y_5 0 S _ _ _ h hP hD hS (lv_sub hl [0, 1, 2, 3] rfl)
  have hB_35 : ∀ (y_1 : Int32) (z_1 : Int32) (S : MS) (H : Heap) (locs : List Loc) (ls : Array Slot), f_Mo_make_35 K y_1 z_1 S = some (r, S') → va_P (dC, dI) classes (wM M S) H → va_D A (wM M S) → va_S A s.heap H locs → lv_has ls 18 [(0, .ref M.o), (1, .int y_1)] → W p l e ({ frames := 13, cells := 0, slots := 0, locals := 359 }) s m ([.ref M.o, .int p0] : List Value).toArray below meth c H locs 0 0 Q (F0 m 35 ls [.int z_1, .ref M.o]) := by
    intro y_1 z_1 S H locs ls h hP hD hS hl
    rw [f_Mo_make_35] at h
    refine lv_iconst (v := 2) hx hb d_Mo_make_35 (by decide) ?_
    obtain ⟨r_8, S_8, hc_8, h⟩ := lf_cE h
    have hFc := lx_free hD hS hA
    refine va_calli (va_runV (As := [.int z_1, .int 2]) (rest := []) ⟨hx, hb, hml, hown, hts⟩ (l_Mo_fails l dC dI X _ hc_8) (cwV 2 hts (gwV good_Mq (u_Mq_Mo _ k_Mo_217) (u_Mq_Mo _ k_Mo_218) (u_Mq_Mo _ k_Mo_474) (u_Mq_Mo _ k_Mo_0) (wcs (u_Mq_Mo _ k_Mo_219) (fun _ h => h))) rfl rfl rfl (by decide +kernel) ⟨Nat.le_of_ble_eq_true rfl, Nat.le_of_ble_eq_true rfl⟩) (pv_ofE (X.same _) (fun U z1 z2 => X.mono _ _ U hFc (hEw _ _ hS U z1 z2)) hP hK hD (va_recv hK hP (ci := 12) (q0 := 0) rfl rfl)) rfl rfl hl.1 rfl (lv_room (Nat.le_of_ble_eq_true rfl)) d_Mo_make_36 ⟨by decide, by decide⟩) hS (fun q _ h => hFc q h) hFc (fun r_ u t H locs ht hvm hw hB hz1 hk1 hS => ?_)
    rw [hw]
    obtain ⟨hP, -, hD⟩ := hB
    rw [ht] at hP
    have hD := lx_dj hD hFc
    refine lv_if_eq (tgt := 44) hx hb d_Mo_make_39 (by decide) (fun c_9 => ?_) (fun c_9 => ?_)
    · have h := lf_t h c_9
      refine lv_aload_n hx hb d_Mo_make_44 rfl (lv_at hl 0 rfl) ?_
      obtain ⟨r_10, S_10, hc_10, h⟩ := lf_cE h
      have hFc := lx_free hD hS hA
      refine va_calli (va_runV (As := []) (rest := []) ⟨hx, hb, hml, hown, hts⟩ (l_Mo_folderHere l dC dI X _ hc_10) (cwV 0 hts (gwV good_Mq (u_Mq_Mo _ k_Mo_246) (u_Mq_Mo _ k_Mo_247) (u_Mq_Mo _ k_Mo_508) (u_Mq_Mo _ k_Mo_0) (wcs (u_Mq_Mo _ k_Mo_248) (fun _ h => h))) rfl rfl rfl (by decide +kernel) ⟨Nat.le_of_ble_eq_true rfl, Nat.le_of_ble_eq_true rfl⟩) (pv_ofE (X.same _) (fun U z1 z2 => X.mono _ _ U hFc (hEw _ _ hS U z1 z2)) hP hK hD (va_recv hK hP (ci := 12) (q0 := 0) rfl rfl)) rfl rfl hl.1 rfl (lv_room (Nat.le_of_ble_eq_true rfl)) d_Mo_make_45 ⟨by decide, by decide⟩) hS (fun q _ h => hFc q h) hFc (fun r_ u t H locs ht hvm hw hB hz1 hk1 hS => ?_)
      rw [hw]
      obtain ⟨hP, -, hD⟩ := hB
      rw [ht] at hP
      have hD := lx_dj hD hFc
      refine lv_istore (lv' := [(4, .int r_10), (0, .ref M.o), (1, .int y_1)]) hx hb d_Mo_make_48 hl (by decide) rfl (fun ls hl => ?_)
      refine lv_aload_n hx hb d_Mo_make_50 rfl (lv_at hl 1 rfl) ?_
      obtain ⟨r_11, S_11, hc_11, h⟩ := lf_cE h
      have hFc := lx_free hD hS hA
      refine va_calli (va_runV (As := []) (rest := []) ⟨hx, hb, hml, hown, hts⟩ (l_Mo_isBrief l dC dI X _ hc_11) (cwV 0 hts (gwV good_Mq (u_Mq_Mo _ k_Mo_313) (u_Mq_Mo _ k_Mo_314) (u_Mq_Mo _ k_Mo_519) (u_Mq_Mo _ k_Mo_0) (wcs (u_Mq_Mo _ k_Mo_315) (fun _ h => h))) rfl rfl rfl (by decide +kernel) ⟨Nat.le_of_ble_eq_true rfl, Nat.le_of_ble_eq_true rfl⟩) (pv_ofE (X.same _) (fun U z1 z2 => X.mono _ _ U hFc (hEw _ _ hS U z1 z2)) hP hK hD (va_recv hK hP (ci := 12) (q0 := 0) rfl rfl)) rfl rfl hl.1 rfl (lv_room (Nat.le_of_ble_eq_true rfl)) d_Mo_make_51 ⟨by decide, by decide⟩) hS (fun q _ h => hFc q h) hFc (fun r_ u t H locs ht hvm hw hB hz1 hk1 hS => ?_)
      rw [hw]
      obtain ⟨hP, -, hD⟩ := hB
      rw [ht] at hP
      have hD := lx_dj hD hFc
      refine lv_istore (lv' := [(5, .int r_11), (4, .int r_10), (0, .ref M.o), (1, .int y_1)]) hx hb d_Mo_make_54 hl (by decide) rfl (fun ls hl => ?_)
      refine lv_aload_n hx hb d_Mo_make_56 rfl (lv_at hl 2 rfl) ?_
      refine lv_iload hx hb d_Mo_make_57 (lv_at hl 0 rfl) ?_
      refine lv_if_eq (tgt := 75) hx hb d_Mo_make_59 (by decide) (fun c_12 => ?_) (fun c_12 => ?_)
      · have h := lf_t h c_12
        exact hB_75 y_1 r_10 r_11 S_11 _ _ _ h hP hD hS (lv_sub hl [2, 3, 1, 0] rfl)
      · have h := lf_f h c_12
        refine lv_aload_n hx hb d_Mo_make_62 rfl (lv_at hl 2 rfl) ?_
        refine lv_iload hx hb d_Mo_make_63 (lv_at hl 1 rfl) ?_
        obtain ⟨r_13, S_13, hc_13, h⟩ := lf_cE h
        have hFc := lx_free hD hS hA
        refine va_calli (va_runV (As := [.int r_10]) (rest := [.ref M.o]) ⟨hx, hb, hml, hown, hts⟩ (l_Mo_isBriefTaken l dC dI X _ hc_13) (cwV 1 hts (gwV good_Mq (u_Mq_Mo _ k_Mo_316) (u_Mq_Mo _ k_Mo_317) (u_Mq_Mo _ k_Mo_520) (u_Mq_Mo _ k_Mo_0) (wcs (u_Mq_Mo _ k_Mo_318) (fun _ h => h))) rfl rfl rfl (by decide +kernel) ⟨Nat.le_of_ble_eq_true rfl, Nat.le_of_ble_eq_true rfl⟩) (pv_ofE (X.same _) (fun U z1 z2 => X.mono _ _ U hFc (hEw _ _ hS U z1 z2)) hP hK hD (va_recv hK hP (ci := 12) (q0 := 0) rfl rfl)) rfl rfl hl.1 rfl (lv_room (Nat.le_of_ble_eq_true rfl)) d_Mo_make_65 ⟨by decide, by decide⟩) hS (fun q _ h => hFc q h) hFc (fun r_ u t H locs ht hvm hw hB hz1 hk1 hS => ?_)
        rw [hw]
        obtain ⟨hP, -, hD⟩ := hB
        rw [ht] at hP
        have hD := lx_dj hD hFc
        refine lv_if_eq (tgt := 75) hx hb d_Mo_make_68 (by decide) (fun c_14 => ?_) (fun c_14 => ?_)
        · have h := lf_t h c_14
          exact hB_75 y_1 r_10 r_11 S_13 _ _ _ h hP hD hS (lv_sub hl [2, 3, 1, 0] rfl)
        · have h := lf_f h c_14
          refine lv_iconst (v := 1) hx hb d_Mo_make_71 (by decide) ?_
          refine lv_goto (tgt := 76) hx hb d_Mo_make_72 (by decide) ?_
          exact hB_76 y_1 r_10 r_11 1 S_13 _ _ _ h hP hD hS (lv_sub hl [2, 3, 1, 0] rfl)
    · have h := lf_f h c_9
      exact hB_42 S_8 _ _ _ h hP hD hS (lv_sub hl [] rfl)
  have hB_30 : ∀ (y_1 : Int32) (S : MS) (H : Heap) (locs : List Loc) (ls : Array Slot), f_Mo_make_30 K y_1 S = some (r, S') → va_P (dC, dI) classes (wM M S) H → va_D A (wM M S) → va_S A s.heap H locs → lv_has ls 18 [(0, .ref M.o), (1, .int y_1)] → W p l e ({ frames := 13, cells := 0, slots := 0, locals := 359 }) s m ([.ref M.o, .int p0] : List Value).toArray below meth c H locs 0 0 Q (F0 m 30 ls [.ref M.o]) := by
    intro y_1 S H locs ls h hP hD hS hl
    rw [f_Mo_make_30] at h
    refine lv_iconst (v := 1) hx hb d_Mo_make_30 (by decide) ?_
    refine lv_goto (tgt := 35) hx hb d_Mo_make_31 (by decide) ?_
    exact hB_35 y_1 1 S _ _ _ h hP hD hS (lv_sub hl [0, 1] rfl)
  rw [f_Mo_make] at h
  refine lv_aload_n hx hb d_Mo_make_0 rfl (lv_at hl 0 rfl) ?_
  obtain ⟨r_1, S_1, hc_1, h⟩ := lf_cE h
  have hFc := lx_free hD hS hA
  refine va_calli (va_runV (As := []) (rest := []) ⟨hx, hb, hml, hown, hts⟩ (l_Mo_fixedNow l dC dI X _ hc_1) (cwV 0 hts (gwV good_Mq (u_Mq_Mo _ k_Mo_307) (u_Mq_Mo _ k_Mo_308) (u_Mq_Mo _ k_Mo_515) (u_Mq_Mo _ k_Mo_0) (wcs (u_Mq_Mo _ k_Mo_309) (fun _ h => h))) rfl rfl rfl (by decide +kernel) ⟨Nat.le_of_ble_eq_true rfl, Nat.le_of_ble_eq_true rfl⟩) (pv_ofE (X.same _) (fun U z1 z2 => X.mono _ _ U hFc (hEw _ _ hS U z1 z2)) hP hK hD (va_recv hK hP (ci := 12) (q0 := 0) rfl rfl)) rfl rfl hl.1 rfl (lv_room (Nat.le_of_ble_eq_true rfl)) d_Mo_make_1 ⟨by decide, by decide⟩) hS (fun q _ h => hFc q h) hFc (fun r_ u t H locs ht hvm hw hB hz1 hk1 hS => ?_)
  rw [hw]
  obtain ⟨hP, -, hD⟩ := hB
  rw [ht] at hP
  have hD := lx_dj hD hFc
  refine lv_istore_n (lv' := [(2, .int r_1), (0, .ref M.o), (1, .int p0)]) hx hb d_Mo_make_4 rfl hl (by decide) rfl (fun ls hl => ?_)
  refine lv_aload_n hx hb d_Mo_make_5 rfl (lv_at hl 1 rfl) ?_
  obtain ⟨r_2, S_2, hc_2, h⟩ := lf_cE h
  have hFc := lx_free hD hS hA
  refine va_calli (va_runV (As := []) (rest := []) ⟨hx, hb, hml, hown, hts⟩ (l_Mo_named l dC dI X _ hc_2) (cwV 0 hts (gwV good_Mq (u_Mq_Mo _ k_Mo_310) (u_Mq_Mo _ k_Mo_311) (u_Mq_Mo _ k_Mo_518) (u_Mq_Mo _ k_Mo_0) (wcs (u_Mq_Mo _ k_Mo_312) (fun _ h => h))) rfl rfl rfl (by decide +kernel) ⟨Nat.le_of_ble_eq_true rfl, Nat.le_of_ble_eq_true rfl⟩) (pv_ofE (X.same _) (fun U z1 z2 => X.mono _ _ U hFc (hEw _ _ hS U z1 z2)) hP hK hD (va_recv hK hP (ci := 12) (q0 := 0) rfl rfl)) rfl rfl hl.1 rfl (lv_room (Nat.le_of_ble_eq_true rfl)) d_Mo_make_6 ⟨by decide, by decide⟩) hS (fun q _ h => hFc q h) hFc (fun r_ u t H locs ht hvm hw hB hz1 hk1 hS => ?_)
  rw [hw]
  obtain ⟨hP, -, hD⟩ := hB
  rw [ht] at hP
  have hD := lx_dj hD hFc
  refine lv_istore_n (lv' := [(3, .int r_2), (2, .int r_1), (0, .ref M.o), (1, .int p0)]) hx hb d_Mo_make_9 rfl hl (by decide) rfl (fun ls hl => ?_)
  refine lv_iload_n hx hb d_Mo_make_10 rfl (lv_at hl 1 rfl) ?_
  refine lv_if_ne (tgt := 42) hx hb d_Mo_make_11 (by decide) (fun c_3 => ?_) (fun c_3 => ?_)
  · have h := lf_f h c_3
    exact hB_42 S_2 _ _ _ h hP hD hS (lv_sub hl [] rfl)
  · have h := lf_t h c_3
    refine lv_aload_n hx hb d_Mo_make_14 rfl (lv_at hl 2 rfl) ?_
    refine lv_iload_n hx hb d_Mo_make_15 rfl (lv_at hl 0 rfl) ?_
    refine lv_if_eq (tgt := 30) hx hb d_Mo_make_16 (by decide) (fun c_4 => ?_) (fun c_4 => ?_)
    · have h := lf_t h c_4
      exact hB_30 p0 S_2 _ _ _ h hP hD hS (lv_sub hl [2, 3] rfl)
    · have h := lf_f h c_4
      refine lv_aload_n hx hb d_Mo_make_19 rfl (lv_at hl 2 rfl) ?_
      refine lv_aload_n hx hb d_Mo_make_20 rfl (lv_at hl 2 rfl) ?_
      obtain ⟨r_5, S_5, hc_5, h⟩ := lf_cE h
      have hFc := lx_free hD hS hA
      refine va_calli (va_runV (As := []) (rest := [.ref M.o, .ref M.o]) ⟨hx, hb, hml, hown, hts⟩ (l_Mo_folderHere l dC dI X _ hc_5) (cwV 0 hts (gwV good_Mq (u_Mq_Mo _ k_Mo_246) (u_Mq_Mo _ k_Mo_247) (u_Mq_Mo _ k_Mo_508) (u_Mq_Mo _ k_Mo_0) (wcs (u_Mq_Mo _ k_Mo_248) (fun _ h => h))) rfl rfl rfl (by decide +kernel) ⟨Nat.le_of_ble_eq_true rfl, Nat.le_of_ble_eq_true rfl⟩) (pv_ofE (X.same _) (fun U z1 z2 => X.mono _ _ U hFc (hEw _ _ hS U z1 z2)) hP hK hD (va_recv hK hP (ci := 12) (q0 := 0) rfl rfl)) rfl rfl hl.1 rfl (lv_room (Nat.le_of_ble_eq_true rfl)) d_Mo_make_21 ⟨by decide, by decide⟩) hS (fun q _ h => hFc q h) hFc (fun r_ u t H locs ht hvm hw hB hz1 hk1 hS => ?_)
      rw [hw]
      obtain ⟨hP, -, hD⟩ := hB
      rw [ht] at hP
      have hD := lx_dj hD hFc
      obtain ⟨r_6, S_6, hc_6, h⟩ := lf_cE h
      have hFc := lx_free hD hS hA
      refine va_calli (va_runV (As := [.int r_5]) (rest := [.ref M.o]) ⟨hx, hb, hml, hown, hts⟩ (l_Mo_isTaken l dC dI X _ hc_6) (cwV 1 hts (gwV good_Mq (u_Mq_Mo _ k_Mo_190) (u_Mq_Mo _ k_Mo_191) (u_Mq_Mo _ k_Mo_504) (u_Mq_Mo _ k_Mo_0) (wcs (u_Mq_Mo _ k_Mo_192) (fun _ h => h))) rfl rfl rfl (by decide +kernel) ⟨Nat.le_of_ble_eq_true rfl, Nat.le_of_ble_eq_true rfl⟩) (pv_ofE (X.same _) (fun U z1 z2 => X.mono _ _ U hFc (hEw _ _ hS U z1 z2)) hP hK hD (va_recv hK hP (ci := 12) (q0 := 0) rfl rfl)) rfl rfl hl.1 rfl (lv_room (Nat.le_of_ble_eq_true rfl)) d_Mo_make_24 ⟨by decide, by decide⟩) hS (fun q _ h => hFc q h) hFc (fun r_ u t H locs ht hvm hw hB hz1 hk1 hS => ?_)
      rw [hw]
      obtain ⟨hP, -, hD⟩ := hB
      rw [ht] at hP
      have hD := lx_dj hD hFc
      refine lv_if_eq (tgt := 34) hx hb d_Mo_make_27 (by decide) (fun c_7 => ?_) (fun c_7 => ?_)
      · have h := lf_t h c_7
        refine lv_iconst (v := 0) hx hb d_Mo_make_34 (by decide) ?_
        exact hB_35 p0 0 S_6 _ _ _ h hP hD hS (lv_sub hl [2, 3] rfl)
      · have h := lf_f h c_7
        exact hB_30 p0 S_6 _ _ _ h hP hD hS (lv_sub hl [2, 3] rfl)
set_option maxHeartbeats 4000000 in
set_option maxRecDepth 100000 in
theorem l_Mo_append (l : Launch) (dC : Nat → ClassId) (dI : Nat → Nat → Nat) {K : Nat} {M : MA} {E : (Nat → Prop) → State → Prop} (X : lx_X l dC dI K M E) (sz : Nat) {S S' : MS} {p0 : Int32} {p1 : Int32} {p2 : Int32} {p3 : Int32} {r : Int32} (h : f_Mo_append K S p0 p1 p2 p3 = some (r, S')) : Met l y_Mo_append (.code y_Mo_append b_Mo_append 11 (some .int) :: V_Mq) ({ frames := 5, cells := 0, slots := 0, locals := 109 }) (va_Pc [.ref M.o, .int p0, .int p1, .int p2, .int p3] (fun U => U.heap.size = sz ∧ at_ (dC, dI) (fun _ => True) (wM M S) (tM M) U ∧ E (va_A (wM M S) sz) U)) (va_Qi (fun (r_ : Int32) (u : Unit) => r_ = r) (fun (u : Unit) t => at_ (dC, dI) (va_A (wM M S) sz) (wM M S') (tM M) t) (va_A (wM M S) sz)) 0 0 (va_A (wM M S) sz) := by
  refine Met.ofW (cc := b_Mo_append) (maxL := 11) (ret := (some .int)) (by decide) rfl ?_
  intro p e s m args below meth c s₁ B hml hv
  obtain ⟨rfl, hsz, ⟨hP, hK, hD0⟩, hE⟩ := hv
  have hx := B.exec
  have hb := B.bytes
  have hr := B.returns
  have hts0 := atoms_spec (ws := .code y_Mo_append b_Mo_append 11 (some .int) :: V_Mq) B.pre
  have hts : ∀ w ∈ V_Mq, w.before ([.ref M.o, .int p0, .int p1, .int p2, .int p3] : List Value).toArray s = true := fun w h => hts0 w (List.mem_cons_of_mem _ h)
  have hown : s.vm.findClass R_Mo = some m.cls := findClass_of_methodNamed B.named
  subst hsz
  have hD := hD0.self (sz := s.heap.size)
  generalize hAe : va_A (wM M S) s.heap.size = A at hD hE ⊢
  have hA : ∀ q : Nat, s.heap.size ≤ q → A q := fun q h => by rw [← hAe]; exact Or.inr h
  have hS : va_S A s.heap s.heap [] := va_S.rf
  have hP : va_P (dC, dI) classes (wM M S) s.heap := hP
  have hK : va_K (dC, dI) classes (tM M) s := hK
  have hEw : ∀ (H : Heap) (locs : List Loc), va_S A s.heap H locs → ∀ U : State, U.heap = H → s.WarmedH U.vm → E A U := fun H locs hS U hU hW => X.kept A s U H locs hE hS hU hW
  have hl := lv_entry ([.ref M.o, .int p0, .int p1, .int p2, .int p3]) (n := 11) (Nat.le_of_ble_eq_true rfl)
  rw [lg_entry_eq]
  generalize (lg_sl ([.ref M.o, .int p0, .int p1, .int p2, .int p3]) ++ List.replicate (11 - (lg_sl ([.ref M.o, .int p0, .int p1, .int p2, .int p3])).length) Slot.unset).toArray = ls at hl ⊢
  have hl : lv_has ls 11 [(0, .ref M.o), (1, .int p0), (2, .int p1), (3, .int p2), (4, .int p3)] := hl
  refine qabs (fun Q hQ => ?_)
  have hB_176 : ∀ (rec_85 : Int32 → Int32 → Int32 → Int32 → Int32 → Int32 → Int32 → Int32 → MS → Option (Int32 × MS)) (hr_85 : ∀ (y_2 : Int32) (y_3 : Int32) (y_4 : Int32) (y_5 : Int32) (y_6 : Int32) (y_7 : Int32) (y_8 : Int32) (y_9 : Int32) (S : MS) (H : Heap) (locs : List Loc) (ls : Array Slot), rec_85 y_2 y_3 y_4 y_5 y_6 y_7 y_8 y_9 S = some (r, S') → va_P (dC, dI) classes (wM M S) H → va_D A (wM M S) → va_S A s.heap H locs → lv_has ls 11 [(0, .ref M.o), (2, .int y_2), (3, .int y_3), (4, .int y_4), (5, .int y_5), (6, .int y_6), (7, .int y_7), (8, .int y_8), (9, .int y_9)] → W p l e ({ frames := 5, cells := 0, slots := 0, locals := 109 }) s m ([.ref M.o, .int p0, .int p1, .int p2, .int p3] : List Value).toArray below meth c H locs 0 0 Q (F0 m 85 ls [])), ∀ (y_2 : Int32) (y_3 : Int32) (y_4 : Int32) (y_5 : Int32) (y_6 : Int32) (y_7 : Int32) (y_8 : Int32) (y_9 : Int32) (S : MS) (H : Heap) (locs : List Loc) (ls : Array Slot), f_Mo_append_176 K rec_85 y_2 y_3 y_4 y_5 y_6 y_7 y_8 y_9 S = some (r, S') → va_P (dC, dI) classes (wM M S) H → va_D A (wM M S) → va_S A s.heap H locs → lv_has ls 11 [(0, .ref M.o), (2, .int y_2), (3, .int y_3), (4, .int y_4), (5, .int y_5), (6, .int y_6), (7, .int y_7), (8, .int y_8), (9, .int y_9)] → W p l e ({ frames := 5, cells := 0, slots := 0, locals := 109 }) s m ([.ref M.o, .int p0, .int p1, .int p2, .int p3] : List Value).toArray below meth c H locs 0 0 Q (F0 m 176 ls []) := by
    intro rec_85 hr_85 y_2 y_3 y_4 y_5 y_6 y_7 y_8 y_9 S H locs ls h hP hD hS hl
    rw [f_Mo_append_176] at h
    refine lv_aload_n hx hb d_Mo_append_176 rfl (lv_at hl 0 rfl) ?_
    refine lv_dup hx hb d_Mo_append_177 rfl ?_
    refine va_get (D := (dC, dI)) (ci := 12) (v := .int S.v_links) (C := R_Mo) (T := F_Mo) (N := 66) hx hb hts (fun w h => u_Mq_Mo w (i_Mo w h)) hown hK hP 0 rfl rfl 35 (by decide) (hts _ (u_Mq_Mo _ k_Mo_42)) (fun _ h9 => h9) rfl d_Mo_append_178 ?_
    refine lv_iconst (v := 1) hx hb d_Mo_append_181 (by decide) ?_
    refine lv_iadd hx hb d_Mo_append_182 ?_
    refine va_put (D := (dC, dI)) (ci := 12) (v := .int (S.v_links + 1)) (ty := .int) (C := R_Mo) (T := F_Mo) (N := 66) hx hb hts (fun w h => u_Mq_Mo w (i_Mo w h)) t_Mo t_Mo_ok n_Mo hown hK hP hD hS 0 rfl rfl 35 (by decide) (hts _ (u_Mq_Mo _ k_Mo_42)) (fun _ h9 => h9) rfl (by decide +kernel) rfl rfl (Nat.le_of_ble_eq_true rfl) d_Mo_append_183 (fun H locs hP hD hS => ?_)
    obtain ⟨S_36, eS_36, h⟩ := lf_lX h
    have hP := lx_newP eS_36 hP
    have hD := lx_newD eS_36 hD
    obtain ⟨x_37, ex_37, h⟩ := lf_lX h
    refine lv_iinc (v := x_37) (lv' := [(9, .int x_37), (0, .ref M.o), (2, .int y_2), (3, .int y_3), (4, .int y_4), (5, .int y_5), (6, .int y_6), (7, .int y_7), (8, .int y_8)]) hx hb d_Mo_append_186 hl (k := 8) rfl (by rw [ex_37]; rfl) (by decide) rfl (fun ls hl => ?_)
    refine lv_goto (tgt := 85) hx hb d_Mo_append_189 (by decide) ?_
    exact hr_85 y_2 y_3 y_4 y_5 y_6 y_7 y_8 x_37 S_36 _ _ _ h hP hD hS (lv_sub hl [1, 2, 3, 4, 5, 6, 7, 8, 0] rfl)
  have hB_261 : ∀ (rec_195 : Int32 → Int32 → Int32 → Int32 → Int32 → Int32 → Int32 → MS → Option (Int32 × MS)) (hr_195 : ∀ (y_2 : Int32) (y_3 : Int32) (y_4 : Int32) (y_5 : Int32) (y_6 : Int32) (y_7 : Int32) (y_9 : Int32) (S : MS) (H : Heap) (locs : List Loc) (ls : Array Slot), rec_195 y_2 y_3 y_4 y_5 y_6 y_7 y_9 S = some (r, S') → va_P (dC, dI) classes (wM M S) H → va_D A (wM M S) → va_S A s.heap H locs → lv_has ls 11 [(0, .ref M.o), (2, .int y_2), (3, .int y_3), (4, .int y_4), (5, .int y_5), (6, .int y_6), (7, .int y_7), (9, .int y_9)] → W p l e ({ frames := 5, cells := 0, slots := 0, locals := 109 }) s m ([.ref M.o, .int p0, .int p1, .int p2, .int p3] : List Value).toArray below meth c H locs 0 0 Q (F0 m 195 ls [])), ∀ (y_2 : Int32) (y_3 : Int32) (y_4 : Int32) (y_5 : Int32) (y_6 : Int32) (y_7 : Int32) (y_9 : Int32) (z_1 : Int32) (z_2 : Int32) (S : MS) (H : Heap) (locs : List Loc) (ls : Array Slot), f_Mo_append_261 K rec_195 y_2 y_3 y_4 y_5 y_6 y_7 y_9 z_1 z_2 S = some (r, S') → va_P (dC, dI) classes (wM M S) H → va_D A (wM M S) → va_S A s.heap H locs → lv_has ls 11 [(0, .ref M.o), (2, .int y_2), (3, .int y_3), (4, .int y_4), (5, .int y_5), (6, .int y_6), (7, .int y_7), (9, .int y_9)] → W p l e ({ frames := 5, cells := 0, slots := 0, locals := 109 }) s m ([.ref M.o, .int p0, .int p1, .int p2, .int p3] : List Value).toArray below meth c H locs 0 0 Q (F0 m 261 ls [.int z_2, .int z_1, .ref M.a_disk]) := by
    intro rec_195 hr_195 y_2 y_3 y_4 y_5 y_6 y_7 y_9 z_1 z_2 S H locs ls h hP hD hS hl
    rw [f_Mo_append_261] at h
    obtain ⟨g_38, h⟩ := lf_gE h
    refine va_bast hx hb hK hP hD hS 1 0 rfl rfl g_38 d_Mo_append_261 (fun H locs hP hD hS => ?_)
    obtain ⟨S_39, eS_39, h⟩ := lf_lX h
    have hP := lx_newP eS_39 hP
    have hD := lx_newD eS_39 hD
    obtain ⟨x_40, ex_40, h⟩ := lf_lX h
    refine lv_iinc (v := x_40) (lv' := [(9, .int x_40), (0, .ref M.o), (2, .int y_2), (3, .int y_3), (4, .int y_4), (5, .int y_5), (6, .int y_6), (7, .int y_7)]) hx hb d_Mo_append_262 hl (k := 7) rfl (by rw [ex_40]; rfl) (by decide) rfl (fun ls hl => ?_)
    refine lv_goto (tgt := 195) hx hb d_Mo_append_265 (by decide) ?_
    exact hr_195 y_2 y_3 y_4 y_5 y_6 y_7 x_40 S_39 _ _ _ h hP hD hS (lv_sub hl [1, 2, 3, 4, 5, 6, 7, 0] rfl)
  have hB_195 : ∀ (k : Nat), ∀ (y_2 : Int32) (y_3 : Int32) (y_4 : Int32) (y_5 : Int32) (y_6 : Int32) (y_7 : Int32) (y_9 : Int32) (S : MS) (H : Heap) (locs : List Loc) (ls : Array Slot), f_Mo_append_195 K k y_2 y_3 y_4 y_5 y_6 y_7 y_9 S = some (r, S') → va_P (dC, dI) classes (wM M S) H → va_D A (wM M S) → va_S A s.heap H locs → lv_has ls 11 [(0, .ref M.o), (2, .int y_2), (3, .int y_3), (4, .int y_4), (5, .int y_5), (6, .int y_6), (7, .int y_7), (9, .int y_9)] → W p l e ({ frames := 5, cells := 0, slots := 0, locals := 109 }) s m ([.ref M.o, .int p0, .int p1, .int p2, .int p3] : List Value).toArray below meth c H locs 0 0 Q (F0 m 195 ls []) := by
    intro k
    induction k with
    | zero => intro y_2 y_3 y_4 y_5 y_6 y_7 y_9 S H locs ls h; exact lf_no h
    | succ k hr_195 =>
      intro y_2 y_3 y_4 y_5 y_6 y_7 y_9 S H locs ls h hP hD hS hl
      rw [f_Mo_append_195] at h
      refine lv_iload hx hb d_Mo_append_195 (lv_at hl 7 rfl) ?_
      refine lv_iload_n hx hb d_Mo_append_197 rfl (lv_at hl 1 rfl) ?_
      refine lv_icmp_ge (tgt := 268) hx hb d_Mo_append_198 (by decide) (fun c_26 => ?_) (fun c_26 => ?_)
      · have h := lf_t h c_26
        refine lv_aload_n hx hb d_Mo_append_268 rfl (lv_at hl 0 rfl) ?_
        refine lv_iload hx hb d_Mo_append_269 (lv_at hl 4 rfl) ?_
        refine lv_bipush (v := 28) hx hb d_Mo_append_271 (by decide) ?_
        refine lv_iadd hx hb d_Mo_append_273 ?_
        refine lv_iconst (v := 4) hx hb d_Mo_append_274 (by decide) ?_
        refine lv_iload hx hb d_Mo_append_275 (lv_at hl 5 rfl) ?_
        refine lv_iload_n hx hb d_Mo_append_277 rfl (lv_at hl 1 rfl) ?_
        refine lv_iadd hx hb d_Mo_append_278 ?_
        refine lv_i2l hx hb d_Mo_append_279 rfl ?_
        obtain ⟨S_27, hc_27, h⟩ := lf_bE h
        have hFc := lx_free hD hS hA
        refine va_callv (va_runV (As := [.int (y_5 + 28), .int 4, .long ((y_6 + y_2).toInt64)]) (rest := []) ⟨hx, hb, hml, hown, hts⟩ (l_Mo_set l dC dI X _ hc_27) (cwV 3 hts (gwV good_Mq (u_Mq_Mo _ k_Mo_221) (u_Mq_Mo _ k_Mo_222) (u_Mq_Mo _ k_Mo_478) (u_Mq_Mo _ k_Mo_0) (wcs (u_Mq_Mo _ k_Mo_223) (fun _ h => h))) rfl rfl rfl (by decide +kernel) ⟨Nat.le_of_ble_eq_true rfl, Nat.le_of_ble_eq_true rfl⟩) (pv_ofE (X.same _) (fun U z1 z2 => X.mono _ _ U hFc (hEw _ _ hS U z1 z2)) hP hK hD (va_recv hK hP (ci := 12) (q0 := 0) rfl rfl)) rfl rfl hl.1 rfl (lv_room (Nat.le_of_ble_eq_true rfl)) d_Mo_append_280 ⟨by decide, by decide⟩) hS (fun q _ h => hFc q h) hFc (fun u t H locs ht hvm hw hB hz1 hk1 hS => ?_)
        obtain ⟨hP, -, hD⟩ := hB
        rw [ht] at hP
        have hD := lx_dj hD hFc
        refine lv_aload_n hx hb d_Mo_append_283 rfl (lv_at hl 0 rfl) ?_
        obtain ⟨S_28, hc_28, h⟩ := lf_bE h
        have hFc := lx_free hD hS hA
        refine va_callv (va_runV (As := []) (rest := []) ⟨hx, hb, hml, hown, hts⟩ (l_Mo_changed l dC dI X _ hc_28) (cwV 0 hts (gwV good_Mq (u_Mq_Mo _ k_Mo_205) (u_Mq_Mo _ k_Mo_206) (u_Mq_Mo _ k_Mo_506) (u_Mq_Mo _ k_Mo_0) (wcs (u_Mq_Mo _ k_Mo_207) (fun _ h => h))) rfl rfl rfl (by decide +kernel) ⟨Nat.le_of_ble_eq_true rfl, Nat.le_of_ble_eq_true rfl⟩) (pv_ofE (X.same _) (fun U z1 z2 => X.mono _ _ U hFc (hEw _ _ hS U z1 z2)) hP hK hD (va_recv hK hP (ci := 12) (q0 := 0) rfl rfl)) rfl rfl hl.1 rfl (lv_room (Nat.le_of_ble_eq_true rfl)) d_Mo_append_284 ⟨by decide, by decide⟩) hS (fun q _ h => hFc q h) hFc (fun u t H locs ht hvm hw hB hz1 hk1 hS => ?_)
        obtain ⟨hP, -, hD⟩ := hB
        rw [ht] at hP
        have hD := lx_dj hD hFc
        refine lv_iload hx hb d_Mo_append_287 (lv_at hl 5 rfl) ?_
        refine lv_iload_n hx hb d_Mo_append_289 rfl (lv_at hl 1 rfl) ?_
        refine lv_iadd hx hb d_Mo_append_290 ?_
        rw [hQ]
        have e1 : (y_6 + y_2) = r := congrArg Prod.fst (Option.some.inj h)
        have e2 : S_28 = S' := congrArg Prod.snd (Option.some.inj h)
        have hP := lx_newP e2.symm hP
        have hD := lx_newD e2.symm hD
        exact W.iret (v := (y_6 + y_2)) hx hb hr (fun t ht hW => ⟨⟨(y_6 + y_2), (), rfl, e1, by rw [ht]; exact hP, va_K.moved hW.alike hK, hD⟩, hS.F ht⟩) hS.2.2 d_Mo_append_291
      · have h := lf_f h c_26
        refine lv_iload hx hb d_Mo_append_201 (lv_at hl 5 rfl) ?_
        refine lv_iload hx hb d_Mo_append_203 (lv_at hl 7 rfl) ?_
        refine lv_iadd hx hb d_Mo_append_205 ?_
        refine lv_topi (fun x_29 ex_29 => ?_)
        have h := lf_lE h ex_29
        refine lv_istore (lv' := [(10, .int x_29), (0, .ref M.o), (2, .int y_2), (3, .int y_3), (4, .int y_4), (5, .int y_5), (6, .int y_6), (7, .int y_7), (9, .int y_9)]) hx hb d_Mo_append_206 hl (by decide) rfl (fun ls hl => ?_)
        refine lv_aload_n hx hb d_Mo_append_208 rfl (lv_at hl 1 rfl) ?_
        refine va_get (D := (dC, dI)) (ci := 12) (v := .ref M.a_disk) (C := R_Mo) (T := F_Mo) (N := 66) hx hb hts (fun w h => u_Mq_Mo w (i_Mo w h)) hown hK hP 0 rfl rfl 1 (by decide) (hts _ (u_Mq_Mo _ k_Mo_8)) (fun _ h9 => h9) rfl d_Mo_append_209 ?_
        refine lv_aload_n hx hb d_Mo_append_212 rfl (lv_at hl 1 rfl) ?_
        refine lv_aload_n hx hb d_Mo_append_213 rfl (lv_at hl 1 rfl) ?_
        refine va_get (D := (dC, dI)) (ci := 12) (v := .ref M.a_chain) (C := R_Mo) (T := F_Mo) (N := 66) hx hb hts (fun w h => u_Mq_Mo w (i_Mo w h)) hown hK hP 0 rfl rfl 33 (by decide) (hts _ (u_Mq_Mo _ k_Mo_40)) (fun _ h9 => h9) rfl d_Mo_append_214 ?_
        refine lv_iload hx hb d_Mo_append_217 (lv_at hl 0 rfl) ?_
        refine lv_iload hx hb d_Mo_append_219 (lv_at hl 7 rfl) ?_
        obtain ⟨g_30, h⟩ := lf_gE h
        refine lv_idiv hx hb d_Mo_append_221 g_30 ?_
        obtain ⟨g_31, h⟩ := lf_gE h
        refine va_iald hx hb hK hP 15 14 rfl rfl g_31 d_Mo_append_222 ?_
        obtain ⟨r_32, S_32, hc_32, h⟩ := lf_cE h
        have hFc := lx_free hD hS hA
        refine va_calli (va_runV (As := [.int (S.v_chain (x_29 / y_7).toNatClampNeg)]) (rest := [.ref M.a_disk]) ⟨hx, hb, hml, hown, hts⟩ (l_Mo_place l dC dI X _ hc_32) (cwV 1 hts (gwV good_Mq (u_Mq_Mo _ k_Mo_136) (u_Mq_Mo _ k_Mo_137) (u_Mq_Mo _ k_Mo_483) (u_Mq_Mo _ k_Mo_0) (wcs (u_Mq_Mo _ k_Mo_138) (fun _ h => h))) rfl rfl rfl (by decide +kernel) ⟨Nat.le_of_ble_eq_true rfl, Nat.le_of_ble_eq_true rfl⟩) (pv_ofE (X.same _) (fun U z1 z2 => X.mono _ _ U hFc (hEw _ _ hS U z1 z2)) hP hK hD (va_recv hK hP (ci := 12) (q0 := 0) rfl rfl)) rfl rfl hl.1 rfl (lv_room (Nat.le_of_ble_eq_true rfl)) d_Mo_append_223 ⟨by decide, by decide⟩) hS (fun q _ h => hFc q h) hFc (fun r_ u t H locs ht hvm hw hB hz1 hk1 hS => ?_)
        rw [hw]
        obtain ⟨hP, -, hD⟩ := hB
        rw [ht] at hP
        have hD := lx_dj hD hFc
        refine lv_iload hx hb d_Mo_append_226 (lv_at hl 0 rfl) ?_
        refine lv_iload hx hb d_Mo_append_228 (lv_at hl 7 rfl) ?_
        obtain ⟨g_33, h⟩ := lf_gE h
        refine lv_irem hx hb d_Mo_append_230 g_33 ?_
        refine lv_iadd hx hb d_Mo_append_231 ?_
        refine lv_iload_n hx hb d_Mo_append_232 rfl (lv_at hl 3 rfl) ?_
        refine lv_if_eq (tgt := 246) hx hb d_Mo_append_233 (by decide) (fun c_34 => ?_) (fun c_34 => ?_)
        · have h := lf_t h c_34
          refine lv_iload hx hb d_Mo_append_246 (lv_at hl 4 rfl) ?_
          refine lv_iload hx hb d_Mo_append_248 (lv_at hl 8 rfl) ?_
          refine lv_iload hx hb d_Mo_append_250 (lv_at hl 8 rfl) ?_
          refine lv_imul hx hb d_Mo_append_252 ?_
          refine lv_iadd hx hb d_Mo_append_253 ?_
          refine lv_iload hx hb d_Mo_append_254 (lv_at hl 8 rfl) ?_
          refine lv_bipush (v := 8) hx hb d_Mo_append_256 (by decide) ?_
          refine lv_ishr hx hb d_Mo_append_258 ?_
          refine lv_iadd hx hb d_Mo_append_259 ?_
          refine lv_i2b hx hb d_Mo_append_260 rfl ?_
          exact hB_261 _ hr_195 y_2 y_3 y_4 y_5 y_6 y_7 y_9 (r_32 + (x_29 - x_29 / y_7 * y_7)) (((y_4 + (y_9 * y_9)) + (y_9 >>> ((8 : Int32) &&& 31))).toInt8.toInt32) S_32 _ _ _ h hP hD hS (lv_sub hl [1, 2, 3, 4, 5, 6, 7, 8] rfl)
        · have h := lf_f h c_34
          refine lv_aload_n hx hb d_Mo_append_236 rfl (lv_at hl 1 rfl) ?_
          refine va_get (D := (dC, dI)) (ci := 12) (v := .ref M.a_tape) (C := R_Mo) (T := F_Mo) (N := 66) hx hb hts (fun w h => u_Mq_Mo w (i_Mo w h)) hown hK hP 0 rfl rfl 3 (by decide) (hts _ (u_Mq_Mo _ k_Mo_10)) (fun _ h9 => h9) rfl d_Mo_append_237 ?_
          refine lv_iload hx hb d_Mo_append_240 (lv_at hl 8 rfl) ?_
          obtain ⟨g_35, h⟩ := lf_gE h
          refine va_bald hx hb hK hP 3 2 rfl rfl g_35 d_Mo_append_242 ?_
          refine lv_goto (tgt := 261) hx hb d_Mo_append_243 (by decide) ?_
          exact hB_261 _ hr_195 y_2 y_3 y_4 y_5 y_6 y_7 y_9 (r_32 + (x_29 - x_29 / y_7 * y_7)) (S_32.v_tape y_9.toNatClampNeg) S_32 _ _ _ h hP hD hS (lv_sub hl [1, 2, 3, 4, 5, 6, 7, 8] rfl)
  have hB_85 : ∀ (k : Nat), ∀ (y_2 : Int32) (y_3 : Int32) (y_4 : Int32) (y_5 : Int32) (y_6 : Int32) (y_7 : Int32) (y_8 : Int32) (y_9 : Int32) (S : MS) (H : Heap) (locs : List Loc) (ls : Array Slot), f_Mo_append_85 K k y_2 y_3 y_4 y_5 y_6 y_7 y_8 y_9 S = some (r, S') → va_P (dC, dI) classes (wM M S) H → va_D A (wM M S) → va_S A s.heap H locs → lv_has ls 11 [(0, .ref M.o), (2, .int y_2), (3, .int y_3), (4, .int y_4), (5, .int y_5), (6, .int y_6), (7, .int y_7), (8, .int y_8), (9, .int y_9)] → W p l e ({ frames := 5, cells := 0, slots := 0, locals := 109 }) s m ([.ref M.o, .int p0, .int p1, .int p2, .int p3] : List Value).toArray below meth c H locs 0 0 Q (F0 m 85 ls []) := by
    intro k
    induction k with
    | zero => intro y_2 y_3 y_4 y_5 y_6 y_7 y_8 y_9 S H locs ls h; exact lf_no h
    | succ k hr_85 =>
      intro y_2 y_3 y_4 y_5 y_6 y_7 y_8 y_9 S H locs ls h hP hD hS hl
      rw [f_Mo_append_85] at h
      refine lv_iload hx hb d_Mo_append_85 (lv_at hl 8 rfl) ?_
      refine lv_iload hx hb d_Mo_append_87 (lv_at hl 7 rfl) ?_
      refine lv_icmp_ge (tgt := 192) hx hb d_Mo_append_89 (by decide) (fun c_14 => ?_) (fun c_14 => ?_)
      · have h := lf_t h c_14
        refine lv_iconst (v := 0) hx hb d_Mo_append_192 (by decide) ?_
        refine lv_istore (lv' := [(9, .int 0), (0, .ref M.o), (2, .int y_2), (3, .int y_3), (4, .int y_4), (5, .int y_5), (6, .int y_6), (7, .int y_7), (8, .int y_8)]) hx hb d_Mo_append_193 hl (by decide) rfl (fun ls hl => ?_)
        exact hB_195 K y_2 y_3 y_4 y_5 y_6 y_7 0 S _ _ _ h hP hD hS (lv_sub hl [1, 2, 3, 4, 5, 6, 7, 0] rfl)
      · have h := lf_f h c_14
        refine lv_aload_n hx hb d_Mo_append_92 rfl (lv_at hl 0 rfl) ?_
        refine va_get (D := (dC, dI)) (ci := 12) (v := .ref M.a_chain) (C := R_Mo) (T := F_Mo) (N := 66) hx hb hts (fun w h => u_Mq_Mo w (i_Mo w h)) hown hK hP 0 rfl rfl 33 (by decide) (hts _ (u_Mq_Mo _ k_Mo_40)) (fun _ h9 => h9) rfl d_Mo_append_93 ?_
        refine lv_aload_n hx hb d_Mo_append_96 rfl (lv_at hl 0 rfl) ?_
        refine va_get (D := (dC, dI)) (ci := 12) (v := .int S.v_links) (C := R_Mo) (T := F_Mo) (N := 66) hx hb hts (fun w h => u_Mq_Mo w (i_Mo w h)) hown hK hP 0 rfl rfl 35 (by decide) (hts _ (u_Mq_Mo _ k_Mo_42)) (fun _ h9 => h9) rfl d_Mo_append_97 ?_
        refine lv_aload_n hx hb d_Mo_append_100 rfl (lv_at hl 0 rfl) ?_
        obtain ⟨r_15, S_15, hc_15, h⟩ := lf_cE h
        have hFc := lx_free hD hS hA
        refine va_calli (va_runV (As := []) (rest := [.int S.v_links, .ref M.a_chain]) ⟨hx, hb, hml, hown, hts⟩ (l_Mo_take l dC dI X _ hc_15) (cwV 0 hts (gwV good_Mq (u_Mq_Mo _ k_Mo_331) (u_Mq_Mo _ k_Mo_332) (u_Mq_Mo _ k_Mo_517) (u_Mq_Mo _ k_Mo_0) (wcs (u_Mq_Mo _ k_Mo_333) (fun _ h => h))) rfl rfl rfl (by decide +kernel) ⟨Nat.le_of_ble_eq_true rfl, Nat.le_of_ble_eq_true rfl⟩) (pv_ofE (X.same _) (fun U z1 z2 => X.mono _ _ U hFc (hEw _ _ hS U z1 z2)) hP hK hD (va_recv hK hP (ci := 12) (q0 := 0) rfl rfl)) rfl rfl hl.1 rfl (lv_room (Nat.le_of_ble_eq_true rfl)) d_Mo_append_101 ⟨by decide, by decide⟩) hS (fun q _ h => hFc q h) hFc (fun r_ u t H locs ht hvm hw hB hz1 hk1 hS => ?_)
        rw [hw]
        obtain ⟨hP, -, hD⟩ := hB
        rw [ht] at hP
        have hD := lx_dj hD hFc
        obtain ⟨g_16, h⟩ := lf_gE h
        refine va_iast hx hb hK hP hD hS 15 14 rfl rfl g_16 d_Mo_append_104 (fun H locs hP hD hS => ?_)
        obtain ⟨S_17, eS_17, h⟩ := lf_lX h
        have hP := lx_newP eS_17 hP
        have hD := lx_newD eS_17 hD
        refine lv_aload_n hx hb d_Mo_append_105 rfl (lv_at hl 0 rfl) ?_
        refine va_get (D := (dC, dI)) (ci := 12) (v := .int S_17.v_links) (C := R_Mo) (T := F_Mo) (N := 66) hx hb hts (fun w h => u_Mq_Mo w (i_Mo w h)) hown hK hP 0 rfl rfl 35 (by decide) (hts _ (u_Mq_Mo _ k_Mo_42)) (fun _ h9 => h9) rfl d_Mo_append_106 ?_
        refine lv_if_le (tgt := 139) hx hb d_Mo_append_109 (by decide) (fun c_18 => ?_) (fun c_18 => ?_)
        · have h := lf_t h c_18
          refine lv_aload_n hx hb d_Mo_append_139 rfl (lv_at hl 0 rfl) ?_
          refine lv_iload hx hb d_Mo_append_140 (lv_at hl 4 rfl) ?_
          refine lv_bipush (v := 20) hx hb d_Mo_append_142 (by decide) ?_
          refine lv_iadd hx hb d_Mo_append_144 ?_
          refine lv_iconst (v := 2) hx hb d_Mo_append_145 (by decide) ?_
          refine lv_aload_n hx hb d_Mo_append_146 rfl (lv_at hl 0 rfl) ?_
          refine va_get (D := (dC, dI)) (ci := 12) (v := .ref M.a_chain) (C := R_Mo) (T := F_Mo) (N := 66) hx hb hts (fun w h => u_Mq_Mo w (i_Mo w h)) hown hK hP 0 rfl rfl 33 (by decide) (hts _ (u_Mq_Mo _ k_Mo_40)) (fun _ h9 => h9) rfl d_Mo_append_147 ?_
          refine lv_iconst (v := 0) hx hb d_Mo_append_150 (by decide) ?_
          obtain ⟨g_19, h⟩ := lf_gE h
          refine va_iald hx hb hK hP 15 14 rfl rfl g_19 d_Mo_append_151 ?_
          refine lv_bipush (v := 16) hx hb d_Mo_append_152 (by decide) ?_
          refine lv_ishr hx hb d_Mo_append_154 ?_
          refine lv_i2l hx hb d_Mo_append_155 rfl ?_
          obtain ⟨S_20, hc_20, h⟩ := lf_bE h
          have hFc := lx_free hD hS hA
          refine va_callv (va_runV (As := [.int (y_5 + 20), .int 2, .long (((S_17.v_chain (0 : Int32).toNatClampNeg) >>> ((16 : Int32) &&& 31)).toInt64)]) (rest := []) ⟨hx, hb, hml, hown, hts⟩ (l_Mo_set l dC dI X _ hc_20) (cwV 3 hts (gwV good_Mq (u_Mq_Mo _ k_Mo_221) (u_Mq_Mo _ k_Mo_222) (u_Mq_Mo _ k_Mo_478) (u_Mq_Mo _ k_Mo_0) (wcs (u_Mq_Mo _ k_Mo_223) (fun _ h => h))) rfl rfl rfl (by decide +kernel) ⟨Nat.le_of_ble_eq_true rfl, Nat.le_of_ble_eq_true rfl⟩) (pv_ofE (X.same _) (fun U z1 z2 => X.mono _ _ U hFc (hEw _ _ hS U z1 z2)) hP hK hD (va_recv hK hP (ci := 12) (q0 := 0) rfl rfl)) rfl rfl hl.1 rfl (lv_room (Nat.le_of_ble_eq_true rfl)) d_Mo_append_156 ⟨by decide, by decide⟩) hS (fun q _ h => hFc q h) hFc (fun u t H locs ht hvm hw hB hz1 hk1 hS => ?_)
          obtain ⟨hP, -, hD⟩ := hB
          rw [ht] at hP
          have hD := lx_dj hD hFc
          refine lv_aload_n hx hb d_Mo_append_159 rfl (lv_at hl 0 rfl) ?_
          refine lv_iload hx hb d_Mo_append_160 (lv_at hl 4 rfl) ?_
          refine lv_bipush (v := 26) hx hb d_Mo_append_162 (by decide) ?_
          refine lv_iadd hx hb d_Mo_append_164 ?_
          refine lv_iconst (v := 2) hx hb d_Mo_append_165 (by decide) ?_
          refine lv_aload_n hx hb d_Mo_append_166 rfl (lv_at hl 0 rfl) ?_
          refine va_get (D := (dC, dI)) (ci := 12) (v := .ref M.a_chain) (C := R_Mo) (T := F_Mo) (N := 66) hx hb hts (fun w h => u_Mq_Mo w (i_Mo w h)) hown hK hP 0 rfl rfl 33 (by decide) (hts _ (u_Mq_Mo _ k_Mo_40)) (fun _ h9 => h9) rfl d_Mo_append_167 ?_
          refine lv_iconst (v := 0) hx hb d_Mo_append_170 (by decide) ?_
          obtain ⟨g_21, h⟩ := lf_gE h
          refine va_iald hx hb hK hP 15 14 rfl rfl g_21 d_Mo_append_171 ?_
          refine lv_i2l hx hb d_Mo_append_172 rfl ?_
          obtain ⟨S_22, hc_22, h⟩ := lf_bE h
          have hFc := lx_free hD hS hA
          refine va_callv (va_runV (As := [.int (y_5 + 26), .int 2, .long ((S_20.v_chain (0 : Int32).toNatClampNeg).toInt64)]) (rest := []) ⟨hx, hb, hml, hown, hts⟩ (l_Mo_set l dC dI X _ hc_22) (cwV 3 hts (gwV good_Mq (u_Mq_Mo _ k_Mo_221) (u_Mq_Mo _ k_Mo_222) (u_Mq_Mo _ k_Mo_478) (u_Mq_Mo _ k_Mo_0) (wcs (u_Mq_Mo _ k_Mo_223) (fun _ h => h))) rfl rfl rfl (by decide +kernel) ⟨Nat.le_of_ble_eq_true rfl, Nat.le_of_ble_eq_true rfl⟩) (pv_ofE (X.same _) (fun U z1 z2 => X.mono _ _ U hFc (hEw _ _ hS U z1 z2)) hP hK hD (va_recv hK hP (ci := 12) (q0 := 0) rfl rfl)) rfl rfl hl.1 rfl (lv_room (Nat.le_of_ble_eq_true rfl)) d_Mo_append_173 ⟨by decide, by decide⟩) hS (fun q _ h => hFc q h) hFc (fun u t H locs ht hvm hw hB hz1 hk1 hS => ?_)
          obtain ⟨hP, -, hD⟩ := hB
          rw [ht] at hP
          have hD := lx_dj hD hFc
          exact hB_176 _ hr_85 y_2 y_3 y_4 y_5 y_6 y_7 y_8 y_9 S_22 _ _ _ h hP hD hS (lv_sub hl [0, 1, 2, 3, 4, 5, 6, 7, 8] rfl)
        · have h := lf_f h c_18
          refine lv_aload_n hx hb d_Mo_append_112 rfl (lv_at hl 0 rfl) ?_
          refine lv_aload_n hx hb d_Mo_append_113 rfl (lv_at hl 0 rfl) ?_
          refine va_get (D := (dC, dI)) (ci := 12) (v := .ref M.a_chain) (C := R_Mo) (T := F_Mo) (N := 66) hx hb hts (fun w h => u_Mq_Mo w (i_Mo w h)) hown hK hP 0 rfl rfl 33 (by decide) (hts _ (u_Mq_Mo _ k_Mo_40)) (fun _ h9 => h9) rfl d_Mo_append_114 ?_
          refine lv_aload_n hx hb d_Mo_append_117 rfl (lv_at hl 0 rfl) ?_
          refine va_get (D := (dC, dI)) (ci := 12) (v := .int S_17.v_links) (C := R_Mo) (T := F_Mo) (N := 66) hx hb hts (fun w h => u_Mq_Mo w (i_Mo w h)) hown hK hP 0 rfl rfl 35 (by decide) (hts _ (u_Mq_Mo _ k_Mo_42)) (fun _ h9 => h9) rfl d_Mo_append_118 ?_
          refine lv_iconst (v := 1) hx hb d_Mo_append_121 (by decide) ?_
          refine lv_isub hx hb d_Mo_append_122 ?_
          obtain ⟨g_23, h⟩ := lf_gE h
          refine va_iald hx hb hK hP 15 14 rfl rfl g_23 d_Mo_append_123 ?_
          refine lv_aload_n hx hb d_Mo_append_124 rfl (lv_at hl 0 rfl) ?_
          refine va_get (D := (dC, dI)) (ci := 12) (v := .ref M.a_chain) (C := R_Mo) (T := F_Mo) (N := 66) hx hb hts (fun w h => u_Mq_Mo w (i_Mo w h)) hown hK hP 0 rfl rfl 33 (by decide) (hts _ (u_Mq_Mo _ k_Mo_40)) (fun _ h9 => h9) rfl d_Mo_append_125 ?_
          refine lv_aload_n hx hb d_Mo_append_128 rfl (lv_at hl 0 rfl) ?_
          refine va_get (D := (dC, dI)) (ci := 12) (v := .int S_17.v_links) (C := R_Mo) (T := F_Mo) (N := 66) hx hb hts (fun w h => u_Mq_Mo w (i_Mo w h)) hown hK hP 0 rfl rfl 35 (by decide) (hts _ (u_Mq_Mo _ k_Mo_42)) (fun _ h9 => h9) rfl d_Mo_append_129 ?_
          obtain ⟨g_24, h⟩ := lf_gE h
          refine va_iald hx hb hK hP 15 14 rfl rfl g_24 d_Mo_append_132 ?_
          obtain ⟨S_25, hc_25, h⟩ := lf_bE h
          have hFc := lx_free hD hS hA
          refine va_callv (va_runV (As := [.int (S_17.v_chain (S_17.v_links - 1).toNatClampNeg), .int (S_17.v_chain S_17.v_links.toNatClampNeg)]) (rest := []) ⟨hx, hb, hml, hown, hts⟩ (l_Mo_setEntry l dC dI X _ hc_25) (cwV 2 hts (gwV good_Mq (u_Mq_Mo _ k_Mo_231) (u_Mq_Mo _ k_Mo_232) (u_Mq_Mo _ k_Mo_481) (u_Mq_Mo _ k_Mo_0) (wcs (u_Mq_Mo _ k_Mo_233) (fun _ h => h))) rfl rfl rfl (by decide +kernel) ⟨Nat.le_of_ble_eq_true rfl, Nat.le_of_ble_eq_true rfl⟩) (pv_ofE (X.same _) (fun U z1 z2 => X.mono _ _ U hFc (hEw _ _ hS U z1 z2)) hP hK hD (va_recv hK hP (ci := 12) (q0 := 0) rfl rfl)) rfl rfl hl.1 rfl (lv_room (Nat.le_of_ble_eq_true rfl)) d_Mo_append_133 ⟨by decide, by decide⟩) hS (fun q _ h => hFc q h) hFc (fun u t H locs ht hvm hw hB hz1 hk1 hS => ?_)
          obtain ⟨hP, -, hD⟩ := hB
          rw [ht] at hP
          have hD := lx_dj hD hFc
          refine lv_goto (tgt := 176) hx hb d_Mo_append_136 (by decide) ?_
          exact hB_176 _ hr_85 y_2 y_3 y_4 y_5 y_6 y_7 y_8 y_9 S_25 _ _ _ h hP hD hS (lv_sub hl [0, 1, 2, 3, 4, 5, 6, 7, 8] rfl)
  have hB_63 : ∀ (y_2 : Int32) (y_3 : Int32) (y_4 : Int32) (y_5 : Int32) (y_6 : Int32) (y_7 : Int32) (y_8 : Int32) (z_1 : Int32) (S : MS) (H : Heap) (locs : List Loc) (ls : Array Slot), f_Mo_append_63 K y_2 y_3 y_4 y_5 y_6 y_7 y_8 z_1 S = some (r, S') → va_P (dC, dI) classes (wM M S) H → va_D A (wM M S) → va_S A s.heap H locs → lv_has ls 11 [(0, .ref M.o), (2, .int y_2), (3, .int y_3), (4, .int y_4), (5, .int y_5), (6, .int y_6), (7, .int y_7), (8, .int y_8)] → W p l e ({ frames := 5, cells := 0, slots := 0, locals := 109 }) s m ([.ref M.o, .int p0, .int p1, .int p2, .int p3] : List Value).toArray below meth c H locs 0 0 Q (F0 m 63 ls [.int z_1, .ref M.o]) := by
    intro y_2 y_3 y_4 y_5 y_6 y_7 y_8 z_1 S H locs ls h hP hD hS hl
    rw [f_Mo_append_63] at h
    refine lv_iconst (v := 4) hx hb d_Mo_append_63 (by decide) ?_
    obtain ⟨r_10, S_10, hc_10, h⟩ := lf_cE h
    have hFc := lx_free hD hS hA
    refine va_calli (va_runV (As := [.int z_1, .int 4]) (rest := []) ⟨hx, hb, hml, hown, hts⟩ (l_Mo_fails l dC dI X _ hc_10) (cwV 2 hts (gwV good_Mq (u_Mq_Mo _ k_Mo_217) (u_Mq_Mo _ k_Mo_218) (u_Mq_Mo _ k_Mo_474) (u_Mq_Mo _ k_Mo_0) (wcs (u_Mq_Mo _ k_Mo_219) (fun _ h => h))) rfl rfl rfl (by decide +kernel) ⟨Nat.le_of_ble_eq_true rfl, Nat.le_of_ble_eq_true rfl⟩) (pv_ofE (X.same _) (fun U z1 z2 => X.mono _ _ U hFc (hEw _ _ hS U z1 z2)) hP hK hD (va_recv hK hP (ci := 12) (q0 := 0) rfl rfl)) rfl rfl hl.1 rfl (lv_room (Nat.le_of_ble_eq_true rfl)) d_Mo_append_64 ⟨by decide, by decide⟩) hS (fun q _ h => hFc q h) hFc (fun r_ u t H locs ht hvm hw hB hz1 hk1 hS => ?_)
    rw [hw]
    obtain ⟨hP, -, hD⟩ := hB
    rw [ht] at hP
    have hD := lx_dj hD hFc
    refine lv_if_eq (tgt := 72) hx hb d_Mo_append_67 (by decide) (fun c_11 => ?_) (fun c_11 => ?_)
    · have h := lf_t h c_11
      refine lv_aload_n hx hb d_Mo_append_72 rfl (lv_at hl 0 rfl) ?_
      refine lv_aload_n hx hb d_Mo_append_73 rfl (lv_at hl 0 rfl) ?_
      refine lv_iload hx hb d_Mo_append_74 (lv_at hl 4 rfl) ?_
      obtain ⟨r_12, S_12, hc_12, h⟩ := lf_cE h
      have hFc := lx_free hD hS hA
      refine va_calli (va_runV (As := [.int y_5]) (rest := [.ref M.o]) ⟨hx, hb, hml, hown, hts⟩ (l_Mo_firstOf l dC dI X _ hc_12) (cwV 1 hts (gwV good_Mq (u_Mq_Mo _ k_Mo_127) (u_Mq_Mo _ k_Mo_128) (u_Mq_Mo _ k_Mo_488) (u_Mq_Mo _ k_Mo_0) (wcs (u_Mq_Mo _ k_Mo_129) (fun _ h => h))) rfl rfl rfl (by decide +kernel) ⟨Nat.le_of_ble_eq_true rfl, Nat.le_of_ble_eq_true rfl⟩) (pv_ofE (X.same _) (fun U z1 z2 => X.mono _ _ U hFc (hEw _ _ hS U z1 z2)) hP hK hD (va_recv hK hP (ci := 12) (q0 := 0) rfl rfl)) rfl rfl hl.1 rfl (lv_room (Nat.le_of_ble_eq_true rfl)) d_Mo_append_76 ⟨by decide, by decide⟩) hS (fun q _ h => hFc q h) hFc (fun r_ u t H locs ht hvm hw hB hz1 hk1 hS => ?_)
      rw [hw]
      obtain ⟨hP, -, hD⟩ := hB
      rw [ht] at hP
      have hD := lx_dj hD hFc
      obtain ⟨S_13, hc_13, h⟩ := lf_bE h
      have hFc := lx_free hD hS hA
      refine va_callv (va_runV (As := [.int r_12]) (rest := []) ⟨hx, hb, hml, hown, hts⟩ (l_Mo_walk l dC dI X _ hc_13) (cwV 1 hts (gwV good_Mq (u_Mq_Mo _ k_Mo_275) (u_Mq_Mo _ k_Mo_276) (u_Mq_Mo _ k_Mo_487) (u_Mq_Mo _ k_Mo_0) (wcs (u_Mq_Mo _ k_Mo_277) (fun _ h => h))) rfl rfl rfl (by decide +kernel) ⟨Nat.le_of_ble_eq_true rfl, Nat.le_of_ble_eq_true rfl⟩) (pv_ofE (X.same _) (fun U z1 z2 => X.mono _ _ U hFc (hEw _ _ hS U z1 z2)) hP hK hD (va_recv hK hP (ci := 12) (q0 := 0) rfl rfl)) rfl rfl hl.1 rfl (lv_room (Nat.le_of_ble_eq_true rfl)) d_Mo_append_79 ⟨by decide, by decide⟩) hS (fun q _ h => hFc q h) hFc (fun u t H locs ht hvm hw hB hz1 hk1 hS => ?_)
      obtain ⟨hP, -, hD⟩ := hB
      rw [ht] at hP
      have hD := lx_dj hD hFc
      refine lv_iconst (v := 0) hx hb d_Mo_append_82 (by decide) ?_
      refine lv_istore (lv' := [(9, .int 0), (0, .ref M.o), (2, .int y_2), (3, .int y_3), (4, .int y_4), (5, .int y_5), (6, .int y_6), (7, .int y_7), (8, .int y_8)]) hx hb d_Mo_append_83 hl (by decide) rfl (fun ls hl => ?_)
      exact hB_85 K y_2 y_3 y_4 y_5 y_6 y_7 y_8 0 S_13 _ _ _ h hP hD hS (lv_sub hl [1, 2, 3, 4, 5, 6, 7, 8, 0] rfl)
    · have h := lf_f h c_11
      refine lv_iconst (v := 0) hx hb d_Mo_append_70 (by decide) ?_
      rw [hQ]
      have e1 : (0 : Int32) = r := congrArg Prod.fst (Option.some.inj h)
      have e2 : S_10 = S' := congrArg Prod.snd (Option.some.inj h)
      have hP := lx_newP e2.symm hP
      have hD := lx_newD e2.symm hD
      exact W.iret (v := 0) hx hb hr (fun t ht hW => ⟨⟨0, (), rfl, e1, by rw [ht]; exact hP, va_K.moved hW.alike hK, hD⟩, hS.F ht⟩) hS.2.2 d_Mo_append_71
  rw [f_Mo_append] at h
  refine lv_aload_n hx hb d_Mo_append_0 rfl (lv_at hl 0 rfl) ?_
  refine va_get (D := (dC, dI)) (ci := 12) (v := .ref M.a_at) (C := R_Mo) (T := F_Mo) (N := 66) hx hb hts (fun w h => u_Mq_Mo w (i_Mo w h)) hown hK hP 0 rfl rfl 24 (by decide) (hts _ (u_Mq_Mo _ k_Mo_31)) (fun _ h9 => h9) rfl d_Mo_append_1 ?_
  refine lv_iload_n hx hb d_Mo_append_4 rfl (lv_at hl 1 rfl) ?_
  obtain ⟨g_1, h⟩ := lf_gE h
  refine va_iald hx hb hK hP 6 5 rfl rfl g_1 d_Mo_append_5 ?_
  refine lv_topi (fun x_2 ex_2 => ?_)
  have h := lf_lE h ex_2
  refine lv_istore (lv' := [(5, .int x_2), (0, .ref M.o), (1, .int p0), (2, .int p1), (3, .int p2), (4, .int p3)]) hx hb d_Mo_append_6 hl (by decide) rfl (fun ls hl => ?_)
  refine lv_aload_n hx hb d_Mo_append_8 rfl (lv_at hl 1 rfl) ?_
  refine lv_iload hx hb d_Mo_append_9 (lv_at hl 0 rfl) ?_
  refine lv_bipush (v := 28) hx hb d_Mo_append_11 (by decide) ?_
  refine lv_iadd hx hb d_Mo_append_13 ?_
  obtain ⟨r_3, S_3, hc_3, h⟩ := lf_cE h
  have hFc := lx_free hD hS hA
  refine va_calli (va_runV (As := [.int (x_2 + 28)]) (rest := []) ⟨hx, hb, hml, hown, hts⟩ (l_Mo_four l dC dI X _ hc_3) (cwV 1 hts (gwV good_Mq (u_Mq_Mo _ k_Mo_100) (u_Mq_Mo _ k_Mo_101) (u_Mq_Mo _ k_Mo_477) (u_Mq_Mo _ k_Mo_0) (wcs (u_Mq_Mo _ k_Mo_102) (fun _ h => h))) rfl rfl rfl (by decide +kernel) ⟨Nat.le_of_ble_eq_true rfl, Nat.le_of_ble_eq_true rfl⟩) (pv_ofE (X.same _) (fun U z1 z2 => X.mono _ _ U hFc (hEw _ _ hS U z1 z2)) hP hK hD (va_recv hK hP (ci := 12) (q0 := 0) rfl rfl)) rfl rfl hl.1 rfl (lv_room (Nat.le_of_ble_eq_true rfl)) d_Mo_append_14 ⟨by decide, by decide⟩) hS (fun q _ h => hFc q h) hFc (fun r_ u t H locs ht hvm hw hB hz1 hk1 hS => ?_)
  rw [hw]
  obtain ⟨hP, -, hD⟩ := hB
  rw [ht] at hP
  have hD := lx_dj hD hFc
  refine lv_istore (lv' := [(6, .int r_3), (5, .int x_2), (0, .ref M.o), (1, .int p0), (2, .int p1), (3, .int p2), (4, .int p3)]) hx hb d_Mo_append_17 hl (by decide) rfl (fun ls hl => ?_)
  refine lv_sipush (v := 512) hx hb d_Mo_append_19 (by decide) ?_
  refine lv_aload_n hx hb d_Mo_append_22 rfl (lv_at hl 2 rfl) ?_
  refine va_get (D := (dC, dI)) (ci := 12) (v := .int S_3.v_c) (C := R_Mo) (T := F_Mo) (N := 66) hx hb hts (fun w h => u_Mq_Mo w (i_Mo w h)) hown hK hP 0 rfl rfl 11 (by decide) (hts _ (u_Mq_Mo _ k_Mo_18)) (fun _ h9 => h9) rfl d_Mo_append_23 ?_
  refine lv_imul hx hb d_Mo_append_26 ?_
  refine lv_topi (fun x_4 ex_4 => ?_)
  have h := lf_lE h ex_4
  refine lv_istore (lv' := [(7, .int x_4), (6, .int r_3), (5, .int x_2), (0, .ref M.o), (1, .int p0), (2, .int p1), (3, .int p2), (4, .int p3)]) hx hb d_Mo_append_27 hl (by decide) rfl (fun ls hl => ?_)
  refine lv_iload hx hb d_Mo_append_29 (lv_at hl 1 rfl) ?_
  refine lv_iload_n hx hb d_Mo_append_31 rfl (lv_at hl 5 rfl) ?_
  refine lv_iadd hx hb d_Mo_append_32 ?_
  refine lv_iload hx hb d_Mo_append_33 (lv_at hl 0 rfl) ?_
  obtain ⟨r_5, hc_5, h⟩ := lf_bE h
  have hFc := lx_free0 hS hA
  refine va_calli (va_runS (As := [.int (r_3 + p1), .int x_4]) (rest := []) ⟨hx, hb, hml, hown, hts⟩ (l_Mo_whole l dC dI  _ hc_5) (va_cwS 2 hts (gwS good_Mq (u_Mq_Mo _ k_Mo_178) (u_Mq_Mo _ k_Mo_179) (u_Mq_Mo _ k_Mo_0) (wcs (u_Mq_Mo _ k_Mo_180) (fun _ h => h))) rfl rfl rfl (by decide +kernel) ⟨Nat.le_of_ble_eq_true rfl, Nat.le_of_ble_eq_true rfl⟩) (ps_of (W := []) (tys := []) (hP.sub (ws' := []) [] rfl) (hK.sub [] rfl) (hD.sub (ws' := []) [] (by decide) rfl)) rfl rfl hl.1 rfl (lv_room (Nat.le_of_ble_eq_true rfl)) d_Mo_append_35 ⟨by decide, by decide⟩) hS (fun q _ h => hFc q h) hFc (fun r_ u t H locs ht hvm hw hB hz1 hk1 hS => ?_)
  rw [hw]
  have hP := lx_stat (A := A) hP hk1
  refine lv_iload hx hb d_Mo_append_38 (lv_at hl 1 rfl) ?_
  refine lv_iload hx hb d_Mo_append_40 (lv_at hl 0 rfl) ?_
  obtain ⟨r_6, hc_6, h⟩ := lf_bE h
  have hFc := lx_free0 hS hA
  refine va_calli (va_runS (As := [.int r_3, .int x_4]) (rest := [.int r_5]) ⟨hx, hb, hml, hown, hts⟩ (l_Mo_whole l dC dI  _ hc_6) (va_cwS 2 hts (gwS good_Mq (u_Mq_Mo _ k_Mo_178) (u_Mq_Mo _ k_Mo_179) (u_Mq_Mo _ k_Mo_0) (wcs (u_Mq_Mo _ k_Mo_180) (fun _ h => h))) rfl rfl rfl (by decide +kernel) ⟨Nat.le_of_ble_eq_true rfl, Nat.le_of_ble_eq_true rfl⟩) (ps_of (W := []) (tys := []) (hP.sub (ws' := []) [] rfl) (hK.sub [] rfl) (hD.sub (ws' := []) [] (by decide) rfl)) rfl rfl hl.1 rfl (lv_room (Nat.le_of_ble_eq_true rfl)) d_Mo_append_42 ⟨by decide, by decide⟩) hS (fun q _ h => hFc q h) hFc (fun r_ u t H locs ht hvm hw hB hz1 hk1 hS => ?_)
  rw [hw]
  have hP := lx_stat (A := A) hP hk1
  refine lv_isub hx hb d_Mo_append_45 ?_
  refine lv_topi (fun x_7 ex_7 => ?_)
  have h := lf_lE h ex_7
  refine lv_istore (lv' := [(8, .int x_7), (7, .int x_4), (6, .int r_3), (5, .int x_2), (0, .ref M.o), (1, .int p0), (2, .int p1), (3, .int p2), (4, .int p3)]) hx hb d_Mo_append_46 hl (by decide) rfl (fun ls hl => ?_)
  refine lv_aload_n hx hb d_Mo_append_48 rfl (lv_at hl 4 rfl) ?_
  refine lv_iload hx hb d_Mo_append_49 (lv_at hl 0 rfl) ?_
  refine lv_aload_n hx hb d_Mo_append_51 rfl (lv_at hl 4 rfl) ?_
  obtain ⟨r_8, S_8, hc_8, h⟩ := lf_cE h
  have hFc := lx_free hD hS hA
  refine va_calli (va_runV (As := []) (rest := [.int x_7, .ref M.o]) ⟨hx, hb, hml, hown, hts⟩ (l_Mo_free l dC dI X _ hc_8) (cwV 0 hts (gwV good_Mq (u_Mq_Mo _ k_Mo_328) (u_Mq_Mo _ k_Mo_329) (u_Mq_Mo _ k_Mo_516) (u_Mq_Mo _ k_Mo_0) (wcs (u_Mq_Mo _ k_Mo_330) (fun _ h => h))) rfl rfl rfl (by decide +kernel) ⟨Nat.le_of_ble_eq_true rfl, Nat.le_of_ble_eq_true rfl⟩) (pv_ofE (X.same _) (fun U z1 z2 => X.mono _ _ U hFc (hEw _ _ hS U z1 z2)) hP hK hD (va_recv hK hP (ci := 12) (q0 := 0) rfl rfl)) rfl rfl hl.1 rfl (lv_room (Nat.le_of_ble_eq_true rfl)) d_Mo_append_52 ⟨by decide, by decide⟩) hS (fun q _ h => hFc q h) hFc (fun r_ u t H locs ht hvm hw hB hz1 hk1 hS => ?_)
  rw [hw]
  obtain ⟨hP, -, hD⟩ := hB
  rw [ht] at hP
  have hD := lx_dj hD hFc
  refine lv_icmp_le (tgt := 62) hx hb d_Mo_append_55 (by decide) (fun c_9 => ?_) (fun c_9 => ?_)
  · have h := lf_t h c_9
    refine lv_iconst (v := 0) hx hb d_Mo_append_62 (by decide) ?_
    exact hB_63 p1 p2 p3 x_2 r_3 x_4 x_7 0 S_8 _ _ _ h hP hD hS (lv_sub hl [4, 6, 7, 8, 3, 2, 1, 0] rfl)
  · have h := lf_f h c_9
    refine lv_iconst (v := 1) hx hb d_Mo_append_58 (by decide) ?_
    refine lv_goto (tgt := 63) hx hb d_Mo_append_59 (by decide) ?_
    exact hB_63 p1 p2 p3 x_2 r_3 x_4 x_7 1 S_8 _ _ _ h hP hD hS (lv_sub hl [4, 6, 7, 8, 3, 2, 1, 0] rfl)
set_option maxHeartbeats 4000000 in
set_option maxRecDepth 100000 in
theorem l_Mo_noFile (l : Launch) (dC : Nat → ClassId) (dI : Nat → Nat → Nat) {K : Nat} {M : MA} {E : (Nat → Prop) → State → Prop} (X : lx_X l dC dI K M E) (sz : Nat) {S S' : MS} {p0 : Int32} {p1 : Int32} {r : Int32} (h : f_Mo_noFile K S p0 p1 = some (r, S')) : Met l y_Mo_noFile (.code y_Mo_noFile b_Mo_noFile 3 (some .boolean) :: V_Mq) ({ frames := 13, cells := 0, slots := 0, locals := 359 }) (va_Pc [.ref M.o, .int p0, .int p1] (fun U => U.heap.size = sz ∧ at_ (dC, dI) (fun _ => True) (wM M S) (tM M) U ∧ E (va_A (wM M S) sz) U)) (va_Qi (fun (r_ : Int32) (u : Unit) => r_ = r) (fun (u : Unit) t => at_ (dC, dI) (va_A (wM M S) sz) (wM M S') (tM M) t) (va_A (wM M S) sz)) 0 0 (va_A (wM M S) sz) := by
  refine Met.ofW (cc := b_Mo_noFile) (maxL := 3) (ret := (some .boolean)) (by decide) rfl ?_
  intro p e s m args below meth c s₁ B hml hv
  obtain ⟨rfl, hsz, ⟨hP, hK, hD0⟩, hE⟩ := hv
  have hx := B.exec
  have hb := B.bytes
  have hr := B.returns
  have hts0 := atoms_spec (ws := .code y_Mo_noFile b_Mo_noFile 3 (some .boolean) :: V_Mq) B.pre
  have hts : ∀ w ∈ V_Mq, w.before ([.ref M.o, .int p0, .int p1] : List Value).toArray s = true := fun w h => hts0 w (List.mem_cons_of_mem _ h)
  have hown : s.vm.findClass R_Mo = some m.cls := findClass_of_methodNamed B.named
  subst hsz
  have hD := hD0.self (sz := s.heap.size)
  generalize hAe : va_A (wM M S) s.heap.size = A at hD hE ⊢
  have hA : ∀ q : Nat, s.heap.size ≤ q → A q := fun q h => by rw [← hAe]; exact Or.inr h
  have hS : va_S A s.heap s.heap [] := va_S.rf
  have hP : va_P (dC, dI) classes (wM M S) s.heap := hP
  have hK : va_K (dC, dI) classes (tM M) s := hK
  have hEw : ∀ (H : Heap) (locs : List Loc), va_S A s.heap H locs → ∀ U : State, U.heap = H → s.WarmedH U.vm → E A U := fun H locs hS U hU hW => X.kept A s U H locs hE hS hU hW
  have hl := lv_entry ([.ref M.o, .int p0, .int p1]) (n := 3) (Nat.le_of_ble_eq_true rfl)
  rw [lg_entry_eq]
  generalize (lg_sl ([.ref M.o, .int p0, .int p1]) ++ List.replicate (3 - (lg_sl ([.ref M.o, .int p0, .int p1])).length) Slot.unset).toArray = ls at hl ⊢
  have hl : lv_has ls 3 [(0, .ref M.o), (1, .int p0), (2, .int p1)] := hl
  refine qabs (fun Q hQ => ?_)
  have hB_61 : ∀ (S : MS) (H : Heap) (locs : List Loc) (ls : Array Slot), f_Mo_noFile_61 K S = some (r, S') → va_P (dC, dI) classes (wM M S) H → va_D A (wM M S) → va_S A s.heap H locs → lv_has ls 3 [] → W p l e ({ frames := 13, cells := 0, slots := 0, locals := 359 }) s m ([.ref M.o, .int p0, .int p1] : List Value).toArray below meth c H locs 0 0 Q (F0 m 61 ls []) := by
    intro S H locs ls h hP hD hS hl
    rw [f_Mo_noFile_61] at h
    refine lv_iconst (v := 1) hx hb d_Mo_noFile_61 (by decide) ?_
    refine lv_goto (tgt := 66) hx hb d_Mo_noFile_62 (by decide) ?_
    rw [hQ]
    have e1 : (1 : Int32) = r := congrArg Prod.fst (Option.some.inj h)
    have e2 : S = S' := congrArg Prod.snd (Option.some.inj h)
    have hP := lx_newP e2.symm hP
    have hD := lx_newD e2.symm hD
    exact W.zret (v := 1) hx hb hr rfl (fun t ht hW => ⟨⟨1, (), rfl, e1, by rw [ht]; exact hP, va_K.moved hW.alike hK, hD⟩, hS.F ht⟩) hS.2.2 d_Mo_noFile_66
  have hB_54 : ∀ (z_1 : Int32) (S : MS) (H : Heap) (locs : List Loc) (ls : Array Slot), f_Mo_noFile_54 K z_1 S = some (r, S') → va_P (dC, dI) classes (wM M S) H → va_D A (wM M S) → va_S A s.heap H locs → lv_has ls 3 [] → W p l e ({ frames := 13, cells := 0, slots := 0, locals := 359 }) s m ([.ref M.o, .int p0, .int p1] : List Value).toArray below meth c H locs 0 0 Q (F0 m 54 ls [.int z_1, .ref M.o]) := by
    intro z_1 S H locs ls h hP hD hS hl
    rw [f_Mo_noFile_54] at h
    refine lv_iconst (v := 3) hx hb d_Mo_noFile_54 (by decide) ?_
    obtain ⟨r_12, S_12, hc_12, h⟩ := lf_cE h
    have hFc := lx_free hD hS hA
    refine va_calli (va_runV (As := [.int z_1, .int 3]) (rest := []) ⟨hx, hb, hml, hown, hts⟩ (l_Mo_fails l dC dI X _ hc_12) (cwV 2 hts (gwV good_Mq (u_Mq_Mo _ k_Mo_217) (u_Mq_Mo _ k_Mo_218) (u_Mq_Mo _ k_Mo_474) (u_Mq_Mo _ k_Mo_0) (wcs (u_Mq_Mo _ k_Mo_219) (fun _ h => h))) rfl rfl rfl (by decide +kernel) ⟨Nat.le_of_ble_eq_true rfl, Nat.le_of_ble_eq_true rfl⟩) (pv_ofE (X.same _) (fun U z1 z2 => X.mono _ _ U hFc (hEw _ _ hS U z1 z2)) hP hK hD (va_recv hK hP (ci := 12) (q0 := 0) rfl rfl)) rfl rfl hl.1 rfl (lv_room (Nat.le_of_ble_eq_true rfl)) d_Mo_noFile_55 ⟨by decide, by decide⟩) hS (fun q _ h => hFc q h) hFc (fun r_ u t H locs ht hvm hw hB hz1 hk1 hS => ?_)
    rw [hw]
    obtain ⟨hP, -, hD⟩ := hB
    rw [ht] at hP
    have hD := lx_dj hD hFc
    refine lv_if_eq (tgt := 65) hx hb d_Mo_noFile_58 (by decide) (fun c_13 => ?_) (fun c_13 => ?_)
    · have h := lf_t h c_13
      refine lv_iconst (v := 0) hx hb d_Mo_noFile_65 (by decide) ?_
      rw [hQ]
      have e1 : (0 : Int32) = r := congrArg Prod.fst (Option.some.inj h)
      have e2 : S_12 = S' := congrArg Prod.snd (Option.some.inj h)
      have hP := lx_newP e2.symm hP
      have hD := lx_newD e2.symm hD
      exact W.zret (v := 0) hx hb hr rfl (fun t ht hW => ⟨⟨0, (), rfl, e1, by rw [ht]; exact hP, va_K.moved hW.alike hK, hD⟩, hS.F ht⟩) hS.2.2 d_Mo_noFile_66
    · have h := lf_f h c_13
      exact hB_61 S_12 _ _ _ h hP hD hS (lv_sub hl [] rfl)
  have hB_49 : ∀ (S : MS) (H : Heap) (locs : List Loc) (ls : Array Slot), f_Mo_noFile_49 K S = some (r, S') → va_P (dC, dI) classes (wM M S) H → va_D A (wM M S) → va_S A s.heap H locs → lv_has ls 3 [] → W p l e ({ frames := 13, cells := 0, slots := 0, locals := 359 }) s m ([.ref M.o, .int p0, .int p1] : List Value).toArray below meth c H locs 0 0 Q (F0 m 49 ls [.ref M.o]) := by
    intro S H locs ls h hP hD hS hl
    rw [f_Mo_noFile_49] at h
    refine lv_iconst (v := 1) hx hb d_Mo_noFile_49 (by decide) ?_
    refine lv_goto (tgt := 54) hx hb d_Mo_noFile_50 (by decide) ?_
    exact hB_54 1 S _ _ _ h hP hD hS (lv_sub hl [] rfl)
  have hB_25 : ∀ (y_1 : Int32) (y_2 : Int32) (z_1 : Int32) (S : MS) (H : Heap) (locs : List Loc) (ls : Array Slot), f_Mo_noFile_25 K y_1 y_2 z_1 S = some (r, S') → va_P (dC, dI) classes (wM M S) H → va_D A (wM M S) → va_S A s.heap H locs → lv_has ls 3 [(0, .ref M.o), (1, .int y_1), (2, .int y_2)] → W p l e ({ frames := 13, cells := 0, slots := 0, locals := 359 }) s m ([.ref M.o, .int p0, .int p1] : List Value).toArray below meth c H locs 0 0 Q (F0 m 25 ls [.int z_1, .ref M.o]) := by
    intro y_1 y_2 z_1 S H locs ls h hP hD hS hl
    rw [f_Mo_noFile_25] at h
    refine lv_iconst (v := 2) hx hb d_Mo_noFile_25 (by decide) ?_
    obtain ⟨r_6, S_6, hc_6, h⟩ := lf_cE h
    have hFc := lx_free hD hS hA
    refine va_calli (va_runV (As := [.int z_1, .int 2]) (rest := []) ⟨hx, hb, hml, hown, hts⟩ (l_Mo_fails l dC dI X _ hc_6) (cwV 2 hts (gwV good_Mq (u_Mq_Mo _ k_Mo_217) (u_Mq_Mo _ k_Mo_218) (u_Mq_Mo _ k_Mo_474) (u_Mq_Mo _ k_Mo_0) (wcs (u_Mq_Mo _ k_Mo_219) (fun _ h => h))) rfl rfl rfl (by decide +kernel) ⟨Nat.le_of_ble_eq_true rfl, Nat.le_of_ble_eq_true rfl⟩) (pv_ofE (X.same _) (fun U z1 z2 => X.mono _ _ U hFc (hEw _ _ hS U z1 z2)) hP hK hD (va_recv hK hP (ci := 12) (q0 := 0) rfl rfl)) rfl rfl hl.1 rfl (lv_room (Nat.le_of_ble_eq_true rfl)) d_Mo_noFile_26 ⟨by decide, by decide⟩) hS (fun q _ h => hFc q h) hFc (fun r_ u t H locs ht hvm hw hB hz1 hk1 hS => ?_)
    rw [hw]
    obtain ⟨hP, -, hD⟩ := hB
    rw [ht] at hP
    have hD := lx_dj hD hFc
    refine lv_if_ne (tgt := 61) hx hb d_Mo_noFile_29 (by decide) (fun c_7 => ?_) (fun c_7 => ?_)
    · have h := lf_f h c_7
      exact hB_61 S_6 _ _ _ h hP hD hS (lv_sub hl [] rfl)
    · have h := lf_t h c_7
      refine lv_aload_n hx hb d_Mo_noFile_32 rfl (lv_at hl 0 rfl) ?_
      refine lv_aload_n hx hb d_Mo_noFile_33 rfl (lv_at hl 0 rfl) ?_
      refine lv_aload_n hx hb d_Mo_noFile_34 rfl (lv_at hl 0 rfl) ?_
      refine lv_iload_n hx hb d_Mo_noFile_35 rfl (lv_at hl 1 rfl) ?_
      obtain ⟨r_8, S_8, hc_8, h⟩ := lf_cE h
      have hFc := lx_free hD hS hA
      refine va_calli (va_runV (As := [.int y_1]) (rest := [.ref M.o, .ref M.o]) ⟨hx, hb, hml, hown, hts⟩ (l_Mo_item l dC dI X _ hc_8) (cwV 1 hts (gwV good_Mq (u_Mq_Mo _ k_Mo_255) (u_Mq_Mo _ k_Mo_256) (u_Mq_Mo _ k_Mo_511) (u_Mq_Mo _ k_Mo_0) (wcs (u_Mq_Mo _ k_Mo_257) (fun _ h => h))) rfl rfl rfl (by decide +kernel) ⟨Nat.le_of_ble_eq_true rfl, Nat.le_of_ble_eq_true rfl⟩) (pv_ofE (X.same _) (fun U z1 z2 => X.mono _ _ U hFc (hEw _ _ hS U z1 z2)) hP hK hD (va_recv hK hP (ci := 12) (q0 := 0) rfl rfl)) rfl rfl hl.1 rfl (lv_room (Nat.le_of_ble_eq_true rfl)) d_Mo_noFile_36 ⟨by decide, by decide⟩) hS (fun q _ h => hFc q h) hFc (fun r_ u t H locs ht hvm hw hB hz1 hk1 hS => ?_)
      rw [hw]
      obtain ⟨hP, -, hD⟩ := hB
      rw [ht] at hP
      have hD := lx_dj hD hFc
      obtain ⟨r_9, S_9, hc_9, h⟩ := lf_cE h
      have hFc := lx_free hD hS hA
      refine va_calli (va_runV (As := [.int r_8]) (rest := [.ref M.o]) ⟨hx, hb, hml, hown, hts⟩ (l_Mo_isFolder l dC dI X _ hc_9) (cwV 1 hts (gwV good_Mq (u_Mq_Mo _ k_Mo_118) (u_Mq_Mo _ k_Mo_119) (u_Mq_Mo _ k_Mo_489) (u_Mq_Mo _ k_Mo_0) (wcs (u_Mq_Mo _ k_Mo_120) (fun _ h => h))) rfl rfl rfl (by decide +kernel) ⟨Nat.le_of_ble_eq_true rfl, Nat.le_of_ble_eq_true rfl⟩) (pv_ofE (X.same _) (fun U z1 z2 => X.mono _ _ U hFc (hEw _ _ hS U z1 z2)) hP hK hD (va_recv hK hP (ci := 12) (q0 := 0) rfl rfl)) rfl rfl hl.1 rfl (lv_room (Nat.le_of_ble_eq_true rfl)) d_Mo_noFile_39 ⟨by decide, by decide⟩) hS (fun q _ h => hFc q h) hFc (fun r_ u t H locs ht hvm hw hB hz1 hk1 hS => ?_)
      rw [hw]
      obtain ⟨hP, -, hD⟩ := hB
      rw [ht] at hP
      have hD := lx_dj hD hFc
      refine lv_if_ne (tgt := 49) hx hb d_Mo_noFile_42 (by decide) (fun c_10 => ?_) (fun c_10 => ?_)
      · have h := lf_f h c_10
        exact hB_49 S_9 _ _ _ h hP hD hS (lv_sub hl [] rfl)
      · have h := lf_t h c_10
        refine lv_iload_n hx hb d_Mo_noFile_45 rfl (lv_at hl 2 rfl) ?_
        refine lv_if_eq (tgt := 53) hx hb d_Mo_noFile_46 (by decide) (fun c_11 => ?_) (fun c_11 => ?_)
        · have h := lf_t h c_11
          refine lv_iconst (v := 0) hx hb d_Mo_noFile_53 (by decide) ?_
          exact hB_54 0 S_9 _ _ _ h hP hD hS (lv_sub hl [] rfl)
        · have h := lf_f h c_11
          exact hB_49 S_9 _ _ _ h hP hD hS (lv_sub hl [] rfl)
  have hB_20 : ∀ (y_1 : Int32) (y_2 : Int32) (S : MS) (H : Heap) (locs : List Loc) (ls : Array Slot), f_Mo_noFile_20 K y_1 y_2 S = some (r, S') → va_P (dC, dI) classes (wM M S) H → va_D A (wM M S) → va_S A s.heap H locs → lv_has ls 3 [(0, .ref M.o), (1, .int y_1), (2, .int y_2)] → W p l e ({ frames := 13, cells := 0, slots := 0, locals := 359 }) s m ([.ref M.o, .int p0, .int p1] : List Value).toArray below meth c H locs 0 0 Q (F0 m 20 ls [.ref M.o]) := by
    intro y_1 y_2 S H locs ls h hP hD hS hl
    rw [f_Mo_noFile_20] at h
    refine lv_iconst (v := 1) hx hb d_Mo_noFile_20 (by decide) ?_
    refine lv_goto (tgt := 25) hx hb d_Mo_noFile_21 (by decide) ?_
    exact hB_25 y_1 y_2 1 S _ _ _ h hP hD hS (lv_sub hl [0, 1, 2] rfl)
  rw [f_Mo_noFile] at h
  refine lv_aload_n hx hb d_Mo_noFile_0 rfl (lv_at hl 0 rfl) ?_
  obtain ⟨r_1, S_1, hc_1, h⟩ := lf_cE h
  have hFc := lx_free hD hS hA
  refine va_calli (va_runV (As := []) (rest := []) ⟨hx, hb, hml, hown, hts⟩ (l_Mo_fixedNow l dC dI X _ hc_1) (cwV 0 hts (gwV good_Mq (u_Mq_Mo _ k_Mo_307) (u_Mq_Mo _ k_Mo_308) (u_Mq_Mo _ k_Mo_515) (u_Mq_Mo _ k_Mo_0) (wcs (u_Mq_Mo _ k_Mo_309) (fun _ h => h))) rfl rfl rfl (by decide +kernel) ⟨Nat.le_of_ble_eq_true rfl, Nat.le_of_ble_eq_true rfl⟩) (pv_ofE (X.same _) (fun U z1 z2 => X.mono _ _ U hFc (hEw _ _ hS U z1 z2)) hP hK hD (va_recv hK hP (ci := 12) (q0 := 0) rfl rfl)) rfl rfl hl.1 rfl (lv_room (Nat.le_of_ble_eq_true rfl)) d_Mo_noFile_1 ⟨by decide, by decide⟩) hS (fun q _ h => hFc q h) hFc (fun r_ u t H locs ht hvm hw hB hz1 hk1 hS => ?_)
  rw [hw]
  obtain ⟨hP, -, hD⟩ := hB
  rw [ht] at hP
  have hD := lx_dj hD hFc
  refine lv_if_ne (tgt := 61) hx hb d_Mo_noFile_4 (by decide) (fun c_2 => ?_) (fun c_2 => ?_)
  · have h := lf_f h c_2
    exact hB_61 S_1 _ _ _ h hP hD hS (lv_sub hl [] rfl)
  · have h := lf_t h c_2
    refine lv_aload_n hx hb d_Mo_noFile_7 rfl (lv_at hl 0 rfl) ?_
    refine lv_iload_n hx hb d_Mo_noFile_8 rfl (lv_at hl 1 rfl) ?_
    refine lv_if_lt (tgt := 20) hx hb d_Mo_noFile_9 (by decide) (fun c_3 => ?_) (fun c_3 => ?_)
    · have h := lf_t h c_3
      exact hB_20 p0 p1 S_1 _ _ _ h hP hD hS (lv_sub hl [0, 1, 2] rfl)
    · have h := lf_f h c_3
      refine lv_iload_n hx hb d_Mo_noFile_12 rfl (lv_at hl 1 rfl) ?_
      refine lv_aload_n hx hb d_Mo_noFile_13 rfl (lv_at hl 0 rfl) ?_
      obtain ⟨r_4, S_4, hc_4, h⟩ := lf_cE h
      have hFc := lx_free hD hS hA
      refine va_calli (va_runV (As := []) (rest := [.int p0, .ref M.o]) ⟨hx, hb, hml, hown, hts⟩ (l_Mo_many l dC dI X _ hc_4) (cwV 0 hts (gwV good_Mq (u_Mq_Mo _ k_Mo_243) (u_Mq_Mo _ k_Mo_244) (u_Mq_Mo _ k_Mo_509) (u_Mq_Mo _ k_Mo_0) (wcs (u_Mq_Mo _ k_Mo_245) (fun _ h => h))) rfl rfl rfl (by decide +kernel) ⟨Nat.le_of_ble_eq_true rfl, Nat.le_of_ble_eq_true rfl⟩) (pv_ofE (X.same _) (fun U z1 z2 => X.mono _ _ U hFc (hEw _ _ hS U z1 z2)) hP hK hD (va_recv hK hP (ci := 12) (q0 := 0) rfl rfl)) rfl rfl hl.1 rfl (lv_room (Nat.le_of_ble_eq_true rfl)) d_Mo_noFile_14 ⟨by decide, by decide⟩) hS (fun q _ h => hFc q h) hFc (fun r_ u t H locs ht hvm hw hB hz1 hk1 hS => ?_)
      rw [hw]
      obtain ⟨hP, -, hD⟩ := hB
      rw [ht] at hP
      have hD := lx_dj hD hFc
      refine lv_icmp_lt (tgt := 24) hx hb d_Mo_noFile_17 (by decide) (fun c_5 => ?_) (fun c_5 => ?_)
      · have h := lf_t h c_5
        refine lv_iconst (v := 0) hx hb d_Mo_noFile_24 (by decide) ?_
        exact hB_25 p0 p1 0 S_4 _ _ _ h hP hD hS (lv_sub hl [0, 1, 2] rfl)
      · have h := lf_f h c_5
        exact hB_20 p0 p1 S_4 _ _ _ h hP hD hS (lv_sub hl [0, 1, 2] rfl)
