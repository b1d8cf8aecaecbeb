set_option maxHeartbeats 4000000 in
set_option maxRecDepth 100000 in
theorem la_format_ok (l : Launch) (hfl : l.flags = pinnedFlags ++ [noTraceFlag]) (dC : Nat → ClassId) (dI : Nat → Nat → Nat) {K : Nat} {M : CA} {E : (Nat → Prop) → State → Prop} (X : ly_X l dC dI K M E) (sz : Nat) {Y : CT} {G0 G' : CG} {S S' : CS} (ou : Nat) (kL : ClassId) (oo : Nat → Int64) {p0 : Int32} {p1 : Int32} {p2 : Int32} {p3 : Int32} {r : Int32} (h : f_Vt_format K G0 S p0 p1 p2 p3 = some (.ok r, G', S')) : Met l y_La_format (.codeWith y_La_format b_La_format 7 (some .int) [(0, 14, 17, 13)] :: V_Lq) ({ frames := 7, cells := G'.gc - G0.gc, slots := G'.gs - G0.gs, locals := 116 }) (va_Pc [.ref M.o_Vt, .int p0, .int p1, .int p2, .int p3, .ref ou] (fun U => U.heap.size = sz ∧ at_ (dC, dI) (fun _ => True) ((ou, .inl (kL, 1, .inr (.inl oo))) :: wV M Y G0 S) ((kL, .long) :: tV M) U ∧ E (va_A ((ou, .inl (kL, 1, .inr (.inl oo))) :: wV M Y G0 S) sz) U)) (va_Qi (fun (r_ : Int32) (u : CT) => r_ = 0) (fun (u : CT) t => at_ (dC, dI) (va_A ((ou, .inl (kL, 1, .inr (.inl oo))) :: wV M Y G0 S) sz) ((ou, .inl (kL, 1, .inr (.inl (vp_updL oo (0 : Int32).toNatClampNeg r.toInt64)))) :: wV M u G' S') ((kL, .long) :: tV M) t) (va_A ((ou, .inl (kL, 1, .inr (.inl oo))) :: wV M Y G0 S) sz)) (G'.gc - G0.gc) (G'.gs - G0.gs) (va_A ((ou, .inl (kL, 1, .inr (.inl oo))) :: wV M Y G0 S) sz) := by
  refine MetW.ofW (handlers := [(0, 14, 17, 13)]) (cc := b_La_format) (maxL := 7) (ret := (some .int)) (by decide) rfl ?_
  intro p e s m args below meth c s₁ B hml htab hv
  obtain ⟨rfl, hsz, ⟨hP, hK, hD0⟩, hE⟩ := hv
  have hx := B.exec
  have hb := B.bytes
  have hr := B.returns
  have hlocks := B.notSynchronized
  have hts0 := atoms_spec (ws := .codeWith y_La_format b_La_format 7 (some .int) [(0, 14, 17, 13)] :: V_Lq) B.pre
  have hts : ∀ w ∈ V_Lq, w.before ([.ref M.o_Vt, .int p0, .int p1, .int p2, .int p3, .ref ou] : List Value).toArray s = true := fun w h => hts0 w (List.mem_cons_of_mem _ h)
  have hown : s.vm.findClass R_La = some m.cls := findClass_of_methodNamed B.named
  subst hsz
  have hD := hD0.self (sz := s.heap.size)
  generalize hAe : va_A ((ou, .inl (kL, 1, .inr (.inl oo))) :: wV M Y G0 S) s.heap.size = A at hD hE ⊢
  have hA : ∀ q : Nat, s.heap.size ≤ q → A q := fun q h => by rw [← hAe]; exact Or.inr h
  have hS : va_S A s.heap s.heap [] := va_S.rf
  have hP : va_P (dC, dI) classes ((ou, .inl (kL, 1, .inr (.inl oo))) :: wV M Y G0 S) s.heap := hP
  have hK : va_K (dC, dI) classes ((kL, .long) :: tV M) s := hK
  have hEw : ∀ (H : Heap) (locs : List Loc), va_S A s.heap H locs → ∀ U : State, U.heap = H → s.WarmedH U.vm → E A U := fun H locs hS U hU hW => X.kept A s U H locs hE hS hU hW
  have hl := lv_entry ([.ref M.o_Vt, .int p0, .int p1, .int p2, .int p3, .ref ou]) (n := 7) (Nat.le_of_ble_eq_true rfl)
  rw [lg_entry_eq]
  generalize (lg_sl ([.ref M.o_Vt, .int p0, .int p1, .int p2, .int p3, .ref ou]) ++ List.replicate (7 - (lg_sl ([.ref M.o_Vt, .int p0, .int p1, .int p2, .int p3, .ref ou])).length) Slot.unset).toArray = ls at hl ⊢
  have hl : lv_has ls 7 [(0, .ref M.o_Vt), (1, .int p0), (2, .int p1), (3, .int p2), (4, .int p3), (5, .ref ou)] := hl
  refine lv_aload hx hb d_La_format_0 (lv_at hl 5 rfl) ?_
  refine lv_iconst (v := 0) hx hb d_La_format_2 (by decide) ?_
  refine lv_aload_n hx hb d_La_format_3 rfl (lv_at hl 0 rfl) ?_
  refine lv_iload_n hx hb d_La_format_4 rfl (lv_at hl 1 rfl) ?_
  refine lv_iload_n hx hb d_La_format_5 rfl (lv_at hl 2 rfl) ?_
  refine lv_iload_n hx hb d_La_format_6 rfl (lv_at hl 3 rfl) ?_
  refine lv_iload hx hb d_La_format_7 (lv_at hl 4 rfl) ?_
  have hPc := hP.sub (ws' := wV M Y G0 S) [1, 2, 3, 4, 5, 6, 7, 8, 9, 10, 11, 12, 13, 14, 15, 16, 17, 18, 19, 20, 21, 22, 23, 24, 25, 26, 27, 28, 29, 30, 31, 32, 33, 34, 35, 36, 37, 38, 39, 40, 41, 42, 43, 44, 45] rfl
  have hDc := hD.sub (ws' := wV M Y G0 S) [1, 2, 3, 4, 5, 6, 7, 8, 9, 10, 11, 12, 13, 14, 15, 16, 17, 18, 19, 20, 21, 22, 23, 24, 25, 26, 27, 28, 29, 30, 31, 32, 33, 34, 35, 36, 37, 38, 39, 40, 41, 42, 43, 44, 45] (by decide) rfl
  have hKc := hK.sub (tys' := tV M) [1, 2, 3] rfl
  have hFc := va_free (wc := wV M Y G0 S) hD hS hA [1, 2, 3, 4, 5, 6, 7, 8, 9, 10, 11, 12, 13, 14, 15, 16, 17, 18, 19, 20, 21, 22, 23, 24, 25, 26, 27, 28, 29, 30, 31, 32, 33, 34, 35, 36, 37, 38, 39, 40, 41, 42, 43, 44, 45] rfl
  refine va_calli (va_runV (As := [.int p0, .int p1, .int p2, .int p3]) (rest := [.int 0, .ref ou]) ⟨hx, hb, hml, hown, hts⟩ (l_Vt_format l dC dI X _ h) (cwV 4 hts (gwV good_Lq (u_Lq_La _ k_La_20) (u_Lq_Vt _ k_Vt_95) (u_Lq_Vt _ k_Vt_96) (u_Lq_Vt _ k_Vt_0) (wcs (u_Lq_Vt _ k_Vt_97) u_Lq_Vq)) rfl rfl rfl (by decide +kernel) ⟨Nat.le_of_ble_eq_true rfl, Nat.le_of_ble_eq_true rfl⟩) (pv_ofE (X.same _) (fun U z1 z2 => X.mono _ _ U hFc (hEw _ _ hS U z1 z2)) hPc hKc hDc (va_recv hKc hPc (ci := 11) (q0 := 0) rfl rfl)) rfl rfl hl.1 rfl (lv_room (Nat.le_of_ble_eq_true rfl)) d_La_format_9 ⟨Nat.le_of_eq (Nat.zero_add _), Nat.le_of_eq (Nat.zero_add _)⟩) hS (fun q _ h => hFc q h) hFc (fun r_ Y1 t H locs ht hvm hw hB hz1 hk1 hS => ?_)
  rw [hw]
  obtain ⟨hP1, -, hD1⟩ := hB
  rw [ht] at hP1
  obtain ⟨hP, hD⟩ := va_join (wr := [(ou, .inl (kL, 1, .inr (.inl oo)))]) (w1 := wV M Y1 G' S') hP hD [1, 2, 3, 4, 5, 6, 7, 8, 9, 10, 11, 12, 13, 14, 15, 16, 17, 18, 19, 20, 21, 22, 23, 24, 25, 26, 27, 28, 29, 30, 31, 32, 33, 34, 35, 36, 37, 38, 39, 40, 41, 42, 43, 44, 45] [0] rfl rfl (by decide) (by decide) hk1 hFc hP1 hD1
  refine W.widen (k := G'.gc - G0.gc) (n := G'.gs - G0.gs) (Nat.le_of_eq (Nat.zero_add _)) (Nat.le_of_eq (Nat.zero_add _)) ?_
  have hP : va_P (dC, dI) classes ((ou, .inl (kL, 1, .inr (.inl oo))) :: wV M Y1 G' S') H := hP
  have hD : va_D A ((ou, .inl (kL, 1, .inr (.inl oo))) :: wV M Y1 G' S') := hD
  refine lv_i2l hx hb d_La_format_12 rfl ?_
  refine va_last hx hb hK hP hD hS 0 0 rfl rfl (by unfold vp_in; decide) d_La_format_13 (fun H locs hP hD hS => ?_)
  refine lv_goto (tgt := 21) hx hb d_La_format_14 (by decide) ?_
  refine lv_iconst (v := 0) hx hb d_La_format_21 (by decide) ?_
  exact W.iret (v := 0) hx hb hr (fun t ht hW => ⟨⟨0, Y1, rfl, rfl, by rw [ht]; exact hP, va_K.moved hW.alike hK, hD⟩, hS.F ht⟩) hS.2.2 d_La_format_22
set_option maxHeartbeats 4000000 in
set_option maxRecDepth 100000 in
theorem la_format_0 (l : Launch) (hfl : l.flags = pinnedFlags ++ [noTraceFlag]) (dC : Nat → ClassId) (dI : Nat → Nat → Nat) {K : Nat} {M : CA} {E : (Nat → Prop) → State → Prop} (X : ly_X l dC dI K M E) (sz : Nat) {Y : CT} {G0 G' : CG} {S S' : CS} (ou : Nat) (kL : ClassId) (oo : Nat → Int64) {p0 : Int32} {p1 : Int32} {p2 : Int32} {p3 : Int32} (h : f_Vt_format K G0 S p0 p1 p2 p3 = some (.error 0, G', S')) : Met l y_La_format (.codeWith y_La_format b_La_format 7 (some .int) [(0, 14, 17, 13)] :: V_Lq) ({ frames := 7, cells := G'.gc - G0.gc, slots := G'.gs - G0.gs, locals := 116 }) (va_Pc [.ref M.o_Vt, .int p0, .int p1, .int p2, .int p3, .ref ou] (fun U => U.heap.size = sz ∧ at_ (dC, dI) (fun _ => True) ((ou, .inl (kL, 1, .inr (.inl oo))) :: wV M Y G0 S) ((kL, .long) :: tV M) U ∧ E (va_A ((ou, .inl (kL, 1, .inr (.inl oo))) :: wV M Y G0 S) sz) U)) (va_Qi (fun (r_ : Int32) (u : CT) => r_ = 1) (fun (u : CT) t => at_ (dC, dI) (va_A ((ou, .inl (kL, 1, .inr (.inl oo))) :: wV M Y G0 S) sz) ((ou, .inl (kL, 1, .inr (.inl oo))) :: wV M u G' S') ((kL, .long) :: tV M) t) (va_A ((ou, .inl (kL, 1, .inr (.inl oo))) :: wV M Y G0 S) sz)) (G'.gc - G0.gc) (G'.gs - G0.gs) (va_A ((ou, .inl (kL, 1, .inr (.inl oo))) :: wV M Y G0 S) sz) := by
  refine MetW.ofW (handlers := [(0, 14, 17, 13)]) (cc := b_La_format) (maxL := 7) (ret := (some .int)) (by decide) rfl ?_
  intro p e s m args below meth c s₁ B hml htab hv
  obtain ⟨rfl, hsz, ⟨hP, hK, hD0⟩, hE⟩ := hv
  have hx := B.exec
  have hb := B.bytes
  have hr := B.returns
  have hlocks := B.notSynchronized
  have hts0 := atoms_spec (ws := .codeWith y_La_format b_La_format 7 (some .int) [(0, 14, 17, 13)] :: V_Lq) B.pre
  have hts : ∀ w ∈ V_Lq, w.before ([.ref M.o_Vt, .int p0, .int p1, .int p2, .int p3, .ref ou] : List Value).toArray s = true := fun w h => hts0 w (List.mem_cons_of_mem _ h)
  have hown : s.vm.findClass R_La = some m.cls := findClass_of_methodNamed B.named
  subst hsz
  have hD := hD0.self (sz := s.heap.size)
  generalize hAe : va_A ((ou, .inl (kL, 1, .inr (.inl oo))) :: wV M Y G0 S) s.heap.size = A at hD hE ⊢
  have hA : ∀ q : Nat, s.heap.size ≤ q → A q := fun q h => by rw [← hAe]; exact Or.inr h
  have hS : va_S A s.heap s.heap [] := va_S.rf
  have hP : va_P (dC, dI) classes ((ou, .inl (kL, 1, .inr (.inl oo))) :: wV M Y G0 S) s.heap := hP
  have hK : va_K (dC, dI) classes ((kL, .long) :: tV M) s := hK
  have hEw : ∀ (H : Heap) (locs : List Loc), va_S A s.heap H locs → ∀ U : State, U.heap = H → s.WarmedH U.vm → E A U := fun H locs hS U hU hW => X.kept A s U H locs hE hS hU hW
  have hl := lv_entry ([.ref M.o_Vt, .int p0, .int p1, .int p2, .int p3, .ref ou]) (n := 7) (Nat.le_of_ble_eq_true rfl)
  rw [lg_entry_eq]
  generalize (lg_sl ([.ref M.o_Vt, .int p0, .int p1, .int p2, .int p3, .ref ou]) ++ List.replicate (7 - (lg_sl ([.ref M.o_Vt, .int p0, .int p1, .int p2, .int p3, .ref ou])).length) Slot.unset).toArray = ls at hl ⊢
  have hl : lv_has ls 7 [(0, .ref M.o_Vt), (1, .int p0), (2, .int p1), (3, .int p2), (4, .int p3), (5, .ref ou)] := hl
  refine lv_aload hx hb d_La_format_0 (lv_at hl 5 rfl) ?_
  refine lv_iconst (v := 0) hx hb d_La_format_2 (by decide) ?_
  refine lv_aload_n hx hb d_La_format_3 rfl (lv_at hl 0 rfl) ?_
  refine lv_iload_n hx hb d_La_format_4 rfl (lv_at hl 1 rfl) ?_
  refine lv_iload_n hx hb d_La_format_5 rfl (lv_at hl 2 rfl) ?_
  refine lv_iload_n hx hb d_La_format_6 rfl (lv_at hl 3 rfl) ?_
  refine lv_iload hx hb d_La_format_7 (lv_at hl 4 rfl) ?_
  have hPc := hP.sub (ws' := wV M Y G0 S) [1, 2, 3, 4, 5, 6, 7, 8, 9, 10, 11, 12, 13, 14, 15, 16, 17, 18, 19, 20, 21, 22, 23, 24, 25, 26, 27, 28, 29, 30, 31, 32, 33, 34, 35, 36, 37, 38, 39, 40, 41, 42, 43, 44, 45] rfl
  have hDc := hD.sub (ws' := wV M Y G0 S) [1, 2, 3, 4, 5, 6, 7, 8, 9, 10, 11, 12, 13, 14, 15, 16, 17, 18, 19, 20, 21, 22, 23, 24, 25, 26, 27, 28, 29, 30, 31, 32, 33, 34, 35, 36, 37, 38, 39, 40, 41, 42, 43, 44, 45] (by decide) rfl
  have hKc := hK.sub (tys' := tV M) [1, 2, 3] rfl
  have hFc := va_free (wc := wV M Y G0 S) hD hS hA [1, 2, 3, 4, 5, 6, 7, 8, 9, 10, 11, 12, 13, 14, 15, 16, 17, 18, 19, 20, 21, 22, 23, 24, 25, 26, 27, 28, 29, 30, 31, 32, 33, 34, 35, 36, 37, 38, 39, 40, 41, 42, 43, 44, 45] rfl
  obtain ⟨k0, hk0, -⟩ := classAt_of (hts _ (u_Lq_Vt _ k_Vt_101))
  refine x_catV (n := 4) (As := [.int p0, .int p1, .int p2, .int p3]) (rest := [.int 0, .ref ou]) (b := M.o_Vt) (st0 := [.int p3, .int p2, .int p1, .int p0, .ref M.o_Vt, .int 0, .ref ou]) ⟨hx, hb, hml, hown, hts⟩ (lt_Vt_format_0 l hfl dC dI X _ h) (cwV 4 hts (gwV good_Lq (u_Lq_La _ k_La_20) (u_Lq_Vt _ k_Vt_95) (u_Lq_Vt _ k_Vt_96) (u_Lq_Vt _ k_Vt_0) (wcs (u_Lq_Vt _ k_Vt_97) u_Lq_Vq)) rfl rfl rfl (by decide +kernel) ⟨Nat.le_of_ble_eq_true rfl, Nat.le_of_ble_eq_true rfl⟩) (pv_ofE (X.same _) (fun U z1 z2 => X.mono _ _ U hFc (hEw _ _ hS U z1 z2)) hPc hKc hDc (va_recv hKc hPc (ci := 11) (q0 := 0) rfl rfl)) rfl hl.1 rfl (Nat.le_of_ble_eq_true rfl) d_La_format_9 ⟨Nat.le_of_eq (Nat.zero_add _), Nat.le_of_eq (Nat.zero_add _)⟩ (E0 := "java/lang/IllegalArgumentException") (fun E st t z => z.1) ⟨k0, hk0⟩ (x := ⟨0, 14, 17, 13⟩) (pre := []) (nm := "java/lang/IllegalArgumentException") (cn := k0) htab (fun k1 z9 z hz => absurd hz List.not_mem_nil) rfl (by decide) (hts _ (u_Lq_La _ k_La_19)) hk0 (fun k1 z9 => by rw [hk0] at z9; cases z9; exact x_refl _ _) (fun qx st t L z1 z2 z3 z4 z5 => ?_)
  have hS := x_catS hS z1 z3.2.1 hFc z5
  obtain ⟨Y1, hP1, -, hD1⟩ := z3.2.2
  obtain ⟨hP, hD⟩ := va_join (wr := [(ou, .inl (kL, 1, .inr (.inl oo)))]) (w1 := wV M Y1 G' S') hP hD [1, 2, 3, 4, 5, 6, 7, 8, 9, 10, 11, 12, 13, 14, 15, 16, 17, 18, 19, 20, 21, 22, 23, 24, 25, 26, 27, 28, 29, 30, 31, 32, 33, 34, 35, 36, 37, 38, 39, 40, 41, 42, 43, 44, 45] [0] rfl rfl (by decide) (by decide) (fun q a b => by have z := z3.2.1.2 q (by rw [z1]; exact a) b; rw [z1] at z; exact z) hFc hP1 hD1
  have hP : va_P (dC, dI) classes ((ou, .inl (kL, 1, .inr (.inl oo))) :: wV M Y1 G' S') t.heap := hP
  have hD : va_D A ((ou, .inl (kL, 1, .inr (.inl oo))) :: wV M Y1 G' S') := hD
  generalize t.heap = H at hP hS ⊢
  show W _ _ _ _ _ _ _ _ _ _ _ _ _ _ _ (F0 m 17 ls [.ref qx])
  refine W.widen (k := G'.gc - G0.gc) (n := G'.gs - G0.gs) (Nat.le_of_eq (Nat.zero_add _)) (Nat.le_of_eq (Nat.zero_add _)) ?_
  refine lv_astore (lv' := [(6, .ref qx), (0, .ref M.o_Vt), (1, .int p0), (2, .int p1), (3, .int p2), (4, .int p3), (5, .ref ou)]) hx hb d_La_format_17 hl (by decide) rfl (fun ls hl => ?_)
  refine lv_iconst (v := 1) hx hb d_La_format_19 (by decide) ?_
  exact W.iret (v := 1) hx hb hr (fun t ht hW => ⟨⟨1, Y1, rfl, rfl, by rw [ht]; exact hP, va_K.moved hW.alike hK, hD⟩, hS.F ht⟩) hS.2.2 d_La_format_20
set_option maxHeartbeats 4000000 in
set_option maxRecDepth 100000 in
theorem la_items_ok (l : Launch) (hfl : l.flags = pinnedFlags ++ [noTraceFlag]) (dC : Nat → ClassId) (dI : Nat → Nat → Nat) {K : Nat} {M : CA} {E : (Nat → Prop) → State → Prop} (X : ly_X l dC dI K M E) (sz : Nat) {Y : CT} {G0 G' : CG} {S S' : CS} (ou : Nat) (kL : ClassId) (oo : Nat → Int64) {r : Int32} (h : f_Vt_items K G0 S = some (.ok r, G', S')) : Met l y_La_items (.codeWith y_La_items b_La_items 3 (some .int) [(0, 8, 11, 19)] :: V_Lq) ({ frames := 9, cells := G'.gc - G0.gc, slots := G'.gs - G0.gs, locals := 244 }) (va_Pc [.ref M.o_Vt, .ref ou] (fun U => U.heap.size = sz ∧ at_ (dC, dI) (fun _ => True) ((ou, .inl (kL, 1, .inr (.inl oo))) :: wV M Y G0 S) ((kL, .long) :: tV M) U ∧ E (va_A ((ou, .inl (kL, 1, .inr (.inl oo))) :: wV M Y G0 S) sz) U)) (va_Qi (fun (r_ : Int32) (u : CT) => r_ = 0) (fun (u : CT) t => at_ (dC, dI) (va_A ((ou, .inl (kL, 1, .inr (.inl oo))) :: wV M Y G0 S) sz) ((ou, .inl (kL, 1, .inr (.inl (vp_updL oo (0 : Int32).toNatClampNeg r.toInt64)))) :: wV M u G' S') ((kL, .long) :: tV M) t) (va_A ((ou, .inl (kL, 1, .inr (.inl oo))) :: wV M Y G0 S) sz)) (G'.gc - G0.gc) (G'.gs - G0.gs) (va_A ((ou, .inl (kL, 1, .inr (.inl oo))) :: wV M Y G0 S) sz) := by
  refine MetW.ofW (handlers := [(0, 8, 11, 19)]) (cc := b_La_items) (maxL := 3) (ret := (some .int)) (by decide) rfl ?_
  intro p e s m args below meth c s₁ B hml htab hv
  obtain ⟨rfl, hsz, ⟨hP, hK, hD0⟩, hE⟩ := hv
  have hx := B.exec
  have hb := B.bytes
  have hr := B.returns
  have hlocks := B.notSynchronized
  have hts0 := atoms_spec (ws := .codeWith y_La_items b_La_items 3 (some .int) [(0, 8, 11, 19)] :: V_Lq) B.pre
  have hts : ∀ w ∈ V_Lq, w.before ([.ref M.o_Vt, .ref ou] : List Value).toArray s = true := fun w h => hts0 w (List.mem_cons_of_mem _ h)
  have hown : s.vm.findClass R_La = some m.cls := findClass_of_methodNamed B.named
  subst hsz
  have hD := hD0.self (sz := s.heap.size)
  generalize hAe : va_A ((ou, .inl (kL, 1, .inr (.inl oo))) :: wV M Y G0 S) s.heap.size = A at hD hE ⊢
  have hA : ∀ q : Nat, s.heap.size ≤ q → A q := fun q h => by rw [← hAe]; exact Or.inr h
  have hS : va_S A s.heap s.heap [] := va_S.rf
  have hP : va_P (dC, dI) classes ((ou, .inl (kL, 1, .inr (.inl oo))) :: wV M Y G0 S) s.heap := hP
  have hK : va_K (dC, dI) classes ((kL, .long) :: tV M) s := hK
  have hEw : ∀ (H : Heap) (locs : List Loc), va_S A s.heap H locs → ∀ U : State, U.heap = H → s.WarmedH U.vm → E A U := fun H locs hS U hU hW => X.kept A s U H locs hE hS hU hW
  have hl := lv_entry ([.ref M.o_Vt, .ref ou]) (n := 3) (Nat.le_of_ble_eq_true rfl)
  rw [lg_entry_eq]
  generalize (lg_sl ([.ref M.o_Vt, .ref ou]) ++ List.replicate (3 - (lg_sl ([.ref M.o_Vt, .ref ou])).length) Slot.unset).toArray = ls at hl ⊢
  have hl : lv_has ls 3 [(0, .ref M.o_Vt), (1, .ref ou)] := hl
  refine lv_aload_n hx hb d_La_items_0 rfl (lv_at hl 1 rfl) ?_
  refine lv_iconst (v := 0) hx hb d_La_items_1 (by decide) ?_
  refine lv_aload_n hx hb d_La_items_2 rfl (lv_at hl 0 rfl) ?_
  have hPc := hP.sub (ws' := wV M Y G0 S) [1, 2, 3, 4, 5, 6, 7, 8, 9, 10, 11, 12, 13, 14, 15, 16, 17, 18, 19, 20, 21, 22, 23, 24, 25, 26, 27, 28, 29, 30, 31, 32, 33, 34, 35, 36, 37, 38, 39, 40, 41, 42, 43, 44, 45] rfl
  have hDc := hD.sub (ws' := wV M Y G0 S) [1, 2, 3, 4, 5, 6, 7, 8, 9, 10, 11, 12, 13, 14, 15, 16, 17, 18, 19, 20, 21, 22, 23, 24, 25, 26, 27, 28, 29, 30, 31, 32, 33, 34, 35, 36, 37, 38, 39, 40, 41, 42, 43, 44, 45] (by decide) rfl
  have hKc := hK.sub (tys' := tV M) [1, 2, 3] rfl
  have hFc := va_free (wc := wV M Y G0 S) hD hS hA [1, 2, 3, 4, 5, 6, 7, 8, 9, 10, 11, 12, 13, 14, 15, 16, 17, 18, 19, 20, 21, 22, 23, 24, 25, 26, 27, 28, 29, 30, 31, 32, 33, 34, 35, 36, 37, 38, 39, 40, 41, 42, 43, 44, 45] rfl
  refine va_calli (va_runV (As := []) (rest := [.int 0, .ref ou]) ⟨hx, hb, hml, hown, hts⟩ (l_Vt_items l dC dI X _ h) (cwV 0 hts (gwV good_Lq (u_Lq_La _ k_La_25) (u_Lq_Vt _ k_Vt_108) (u_Lq_Vt _ k_Vt_109) (u_Lq_Vt _ k_Vt_0) (wcs (u_Lq_Vt _ k_Vt_110) u_Lq_Vq)) rfl rfl rfl (by decide +kernel) ⟨Nat.le_of_ble_eq_true rfl, Nat.le_of_ble_eq_true rfl⟩) (pv_ofE (X.same _) (fun U z1 z2 => X.mono _ _ U hFc (hEw _ _ hS U z1 z2)) hPc hKc hDc (va_recv hKc hPc (ci := 11) (q0 := 0) rfl rfl)) rfl rfl hl.1 rfl (lv_room (Nat.le_of_ble_eq_true rfl)) d_La_items_3 ⟨Nat.le_of_eq (Nat.zero_add _), Nat.le_of_eq (Nat.zero_add _)⟩) hS (fun q _ h => hFc q h) hFc (fun r_ Y1 t H locs ht hvm hw hB hz1 hk1 hS => ?_)
  rw [hw]
  obtain ⟨hP1, -, hD1⟩ := hB
  rw [ht] at hP1
  obtain ⟨hP, hD⟩ := va_join (wr := [(ou, .inl (kL, 1, .inr (.inl oo)))]) (w1 := wV M Y1 G' S') hP hD [1, 2, 3, 4, 5, 6, 7, 8, 9, 10, 11, 12, 13, 14, 15, 16, 17, 18, 19, 20, 21, 22, 23, 24, 25, 26, 27, 28, 29, 30, 31, 32, 33, 34, 35, 36, 37, 38, 39, 40, 41, 42, 43, 44, 45] [0] rfl rfl (by decide) (by decide) hk1 hFc hP1 hD1
  refine W.widen (k := G'.gc - G0.gc) (n := G'.gs - G0.gs) (Nat.le_of_eq (Nat.zero_add _)) (Nat.le_of_eq (Nat.zero_add _)) ?_
  have hP : va_P (dC, dI) classes ((ou, .inl (kL, 1, .inr (.inl oo))) :: wV M Y1 G' S') H := hP
  have hD : va_D A ((ou, .inl (kL, 1, .inr (.inl oo))) :: wV M Y1 G' S') := hD
  refine lv_i2l hx hb d_La_items_6 rfl ?_
  refine va_last hx hb hK hP hD hS 0 0 rfl rfl (by unfold vp_in; decide) d_La_items_7 (fun H locs hP hD hS => ?_)
  refine lv_goto (tgt := 14) hx hb d_La_items_8 (by decide) ?_
  refine lv_iconst (v := 0) hx hb d_La_items_14 (by decide) ?_
  exact W.iret (v := 0) hx hb hr (fun t ht hW => ⟨⟨0, Y1, rfl, rfl, by rw [ht]; exact hP, va_K.moved hW.alike hK, hD⟩, hS.F ht⟩) hS.2.2 d_La_items_15
set_option maxHeartbeats 4000000 in
set_option maxRecDepth 100000 in
theorem la_items_1 (l : Launch) (hfl : l.flags = pinnedFlags ++ [noTraceFlag]) (dC : Nat → ClassId) (dI : Nat → Nat → Nat) {K : Nat} {M : CA} {E : (Nat → Prop) → State → Prop} (X : ly_X l dC dI K M E) (sz : Nat) {Y : CT} {G0 G' : CG} {S S' : CS} (ou : Nat) (kL : ClassId) (oo : Nat → Int64) (h : f_Vt_items K G0 S = some (.error 1, G', S')) : Met l y_La_items (.codeWith y_La_items b_La_items 3 (some .int) [(0, 8, 11, 19)] :: V_Lq) ({ frames := 9, cells := G'.gc - G0.gc, slots := G'.gs - G0.gs, locals := 244 }) (va_Pc [.ref M.o_Vt, .ref ou] (fun U => U.heap.size = sz ∧ at_ (dC, dI) (fun _ => True) ((ou, .inl (kL, 1, .inr (.inl oo))) :: wV M Y G0 S) ((kL, .long) :: tV M) U ∧ E (va_A ((ou, .inl (kL, 1, .inr (.inl oo))) :: wV M Y G0 S) sz) U)) (va_Qi (fun (r_ : Int32) (u : CT) => r_ = 1) (fun (u : CT) t => at_ (dC, dI) (va_A ((ou, .inl (kL, 1, .inr (.inl oo))) :: wV M Y G0 S) sz) ((ou, .inl (kL, 1, .inr (.inl oo))) :: wV M u G' S') ((kL, .long) :: tV M) t) (va_A ((ou, .inl (kL, 1, .inr (.inl oo))) :: wV M Y G0 S) sz)) (G'.gc - G0.gc) (G'.gs - G0.gs) (va_A ((ou, .inl (kL, 1, .inr (.inl oo))) :: wV M Y G0 S) sz) := by
  refine MetW.ofW (handlers := [(0, 8, 11, 19)]) (cc := b_La_items) (maxL := 3) (ret := (some .int)) (by decide) rfl ?_
  intro p e s m args below meth c s₁ B hml htab hv
  obtain ⟨rfl, hsz, ⟨hP, hK, hD0⟩, hE⟩ := hv
  have hx := B.exec
  have hb := B.bytes
  have hr := B.returns
  have hlocks := B.notSynchronized
  have hts0 := atoms_spec (ws := .codeWith y_La_items b_La_items 3 (some .int) [(0, 8, 11, 19)] :: V_Lq) B.pre
  have hts : ∀ w ∈ V_Lq, w.before ([.ref M.o_Vt, .ref ou] : List Value).toArray s = true := fun w h => hts0 w (List.mem_cons_of_mem _ h)
  have hown : s.vm.findClass R_La = some m.cls := findClass_of_methodNamed B.named
  subst hsz
  have hD := hD0.self (sz := s.heap.size)
  generalize hAe : va_A ((ou, .inl (kL, 1, .inr (.inl oo))) :: wV M Y G0 S) s.heap.size = A at hD hE ⊢
  have hA : ∀ q : Nat, s.heap.size ≤ q → A q := fun q h => by rw [← hAe]; exact Or.inr h
  have hS : va_S A s.heap s.heap [] := va_S.rf
  have hP : va_P (dC, dI) classes ((ou, .inl (kL, 1, .inr (.inl oo))) :: wV M Y G0 S) s.heap := hP
  have hK : va_K (dC, dI) classes ((kL, .long) :: tV M) s := hK
  have hEw : ∀ (H : Heap) (locs : List Loc), va_S A s.heap H locs → ∀ U : State, U.heap = H → s.WarmedH U.vm → E A U := fun H locs hS U hU hW => X.kept A s U H locs hE hS hU hW
  have hl := lv_entry ([.ref M.o_Vt, .ref ou]) (n := 3) (Nat.le_of_ble_eq_true rfl)
  rw [lg_entry_eq]
  generalize (lg_sl ([.ref M.o_Vt, .ref ou]) ++ List.replicate (3 - (lg_sl ([.ref M.o_Vt, .ref ou])).length) Slot.unset).toArray = ls at hl ⊢
  have hl : lv_has ls 3 [(0, .ref M.o_Vt), (1, .ref ou)] := hl
  refine lv_aload_n hx hb d_La_items_0 rfl (lv_at hl 1 rfl) ?_
  refine lv_iconst (v := 0) hx hb d_La_items_1 (by decide) ?_
  refine lv_aload_n hx hb d_La_items_2 rfl (lv_at hl 0 rfl) ?_
  have hPc := hP.sub (ws' := wV M Y G0 S) [1, 2, 3, 4, 5, 6, 7, 8, 9, 10, 11, 12, 13, 14, 15, 16, 17, 18, 19, 20, 21, 22, 23, 24, 25, 26, 27, 28, 29, 30, 31, 32, 33, 34, 35, 36, 37, 38, 39, 40, 41, 42, 43, 44, 45] rfl
  have hDc := hD.sub (ws' := wV M Y G0 S) [1, 2, 3, 4, 5, 6, 7, 8, 9, 10, 11, 12, 13, 14, 15, 16, 17, 18, 19, 20, 21, 22, 23, 24, 25, 26, 27, 28, 29, 30, 31, 32, 33, 34, 35, 36, 37, 38, 39, 40, 41, 42, 43, 44, 45] (by decide) rfl
  have hKc := hK.sub (tys' := tV M) [1, 2, 3] rfl
  have hFc := va_free (wc := wV M Y G0 S) hD hS hA [1, 2, 3, 4, 5, 6, 7, 8, 9, 10, 11, 12, 13, 14, 15, 16, 17, 18, 19, 20, 21, 22, 23, 24, 25, 26, 27, 28, 29, 30, 31, 32, 33, 34, 35, 36, 37, 38, 39, 40, 41, 42, 43, 44, 45] rfl
  obtain ⟨k0, hk0, -⟩ := classAt_of (hts _ (u_Lq_Vt _ k_Vt_115))
  refine x_catV (n := 0) (As := []) (rest := [.int 0, .ref ou]) (b := M.o_Vt) (st0 := [.ref M.o_Vt, .int 0, .ref ou]) ⟨hx, hb, hml, hown, hts⟩ (lt_Vt_items_1 l hfl dC dI X _ h) (cwV 0 hts (gwV good_Lq (u_Lq_La _ k_La_25) (u_Lq_Vt _ k_Vt_108) (u_Lq_Vt _ k_Vt_109) (u_Lq_Vt _ k_Vt_0) (wcs (u_Lq_Vt _ k_Vt_110) u_Lq_Vq)) rfl rfl rfl (by decide +kernel) ⟨Nat.le_of_ble_eq_true rfl, Nat.le_of_ble_eq_true rfl⟩) (pv_ofE (X.same _) (fun U z1 z2 => X.mono _ _ U hFc (hEw _ _ hS U z1 z2)) hPc hKc hDc (va_recv hKc hPc (ci := 11) (q0 := 0) rfl rfl)) rfl hl.1 rfl (Nat.le_of_ble_eq_true rfl) d_La_items_3 ⟨Nat.le_of_eq (Nat.zero_add _), Nat.le_of_eq (Nat.zero_add _)⟩ (E0 := "java/lang/IllegalStateException") (fun E st t z => z.1) ⟨k0, hk0⟩ (x := ⟨0, 8, 11, 19⟩) (pre := []) (nm := "java/lang/IllegalStateException") (cn := k0) htab (fun k1 z9 z hz => absurd hz List.not_mem_nil) rfl (by decide) (hts _ (u_Lq_La _ k_La_24)) hk0 (fun k1 z9 => by rw [hk0] at z9; cases z9; exact x_refl _ _) (fun qx st t L z1 z2 z3 z4 z5 => ?_)
  have hS := x_catS hS z1 z3.2.1 hFc z5
  obtain ⟨Y1, hP1, -, hD1⟩ := z3.2.2
  obtain ⟨hP, hD⟩ := va_join (wr := [(ou, .inl (kL, 1, .inr (.inl oo)))]) (w1 := wV M Y1 G' S') hP hD [1, 2, 3, 4, 5, 6, 7, 8, 9, 10, 11, 12, 13, 14, 15, 16, 17, 18, 19, 20, 21, 22, 23, 24, 25, 26, 27, 28, 29, 30, 31, 32, 33, 34, 35, 36, 37, 38, 39, 40, 41, 42, 43, 44, 45] [0] rfl rfl (by decide) (by decide) (fun q a b => by have z := z3.2.1.2 q (by rw [z1]; exact a) b; rw [z1] at z; exact z) hFc hP1 hD1
  have hP : va_P (dC, dI) classes ((ou, .inl (kL, 1, .inr (.inl oo))) :: wV M Y1 G' S') t.heap := hP
  have hD : va_D A ((ou, .inl (kL, 1, .inr (.inl oo))) :: wV M Y1 G' S') := hD
  generalize t.heap = H at hP hS ⊢
  show W _ _ _ _ _ _ _ _ _ _ _ _ _ _ _ (F0 m 11 ls [.ref qx])
  refine W.widen (k := G'.gc - G0.gc) (n := G'.gs - G0.gs) (Nat.le_of_eq (Nat.zero_add _)) (Nat.le_of_eq (Nat.zero_add _)) ?_
  refine lv_astore_n (lv' := [(2, .ref qx), (0, .ref M.o_Vt), (1, .ref ou)]) hx hb d_La_items_11 rfl hl (by decide) rfl (fun ls hl => ?_)
  refine lv_iconst (v := 1) hx hb d_La_items_12 (by decide) ?_
  exact W.iret (v := 1) hx hb hr (fun t ht hW => ⟨⟨1, Y1, rfl, rfl, by rw [ht]; exact hP, va_K.moved hW.alike hK, hD⟩, hS.F ht⟩) hS.2.2 d_La_items_13
set_option maxHeartbeats 4000000 in
set_option maxRecDepth 100000 in
theorem la_letter_ok (l : Launch) (hfl : l.flags = pinnedFlags ++ [noTraceFlag]) (dC : Nat → ClassId) (dI : Nat → Nat → Nat) {K : Nat} {M : CA} {E : (Nat → Prop) → State → Prop} (X : ly_X l dC dI K M E) (sz : Nat) {Y : CT} {G0 G' : CG} {S S' : CS} (ou : Nat) (kL : ClassId) (oo : Nat → Int64) {p0 : Int32} {p1 : Int32} {r : Int32} (h : f_Vt_letter K G0 S p0 p1 = some (.ok r, G', S')) : Met l y_La_letter (.codeWith y_La_letter b_La_letter 5 (some .int) [(0, 10, 13, 19), (0, 10, 17, 25)] :: V_Lq) ({ frames := 9, cells := G'.gc - G0.gc, slots := G'.gs - G0.gs, locals := 246 }) (va_Pc [.ref M.o_Vt, .int p0, .int p1, .ref ou] (fun U => U.heap.size = sz ∧ at_ (dC, dI) (fun _ => True) ((ou, .inl (kL, 1, .inr (.inl oo))) :: wV M Y G0 S) ((kL, .long) :: tV M) U ∧ E (va_A ((ou, .inl (kL, 1, .inr (.inl oo))) :: wV M Y G0 S) sz) U)) (va_Qi (fun (r_ : Int32) (u : CT) => r_ = 0) (fun (u : CT) t => at_ (dC, dI) (va_A ((ou, .inl (kL, 1, .inr (.inl oo))) :: wV M Y G0 S) sz) ((ou, .inl (kL, 1, .inr (.inl (vp_updL oo (0 : Int32).toNatClampNeg r.toInt64)))) :: wV M u G' S') ((kL, .long) :: tV M) t) (va_A ((ou, .inl (kL, 1, .inr (.inl oo))) :: wV M Y G0 S) sz)) (G'.gc - G0.gc) (G'.gs - G0.gs) (va_A ((ou, .inl (kL, 1, .inr (.inl oo))) :: wV M Y G0 S) sz) := by
  refine MetW.ofW (handlers := [(0, 10, 13, 19), (0, 10, 17, 25)]) (cc := b_La_letter) (maxL := 5) (ret := (some .int)) (by decide) rfl ?_
  intro p e s m args below meth c s₁ B hml htab hv
  obtain ⟨rfl, hsz, ⟨hP, hK, hD0⟩, hE⟩ := hv
  have hx := B.exec
  have hb := B.bytes
  have hr := B.returns
  have hlocks := B.notSynchronized
  have hts0 := atoms_spec (ws := .codeWith y_La_letter b_La_letter 5 (some .int) [(0, 10, 13, 19), (0, 10, 17, 25)] :: V_Lq) B.pre
  have hts : ∀ w ∈ V_Lq, w.before ([.ref M.o_Vt, .int p0, .int p1, .ref ou] : List Value).toArray s = true := fun w h => hts0 w (List.mem_cons_of_mem _ h)
  have hown : s.vm.findClass R_La = some m.cls := findClass_of_methodNamed B.named
  subst hsz
  have hD := hD0.self (sz := s.heap.size)
  generalize hAe : va_A ((ou, .inl (kL, 1, .inr (.inl oo))) :: wV M Y G0 S) s.heap.size = A at hD hE ⊢
  have hA : ∀ q : Nat, s.heap.size ≤ q → A q := fun q h => by rw [← hAe]; exact Or.inr h
  have hS : va_S A s.heap s.heap [] := va_S.rf
  have hP : va_P (dC, dI) classes ((ou, .inl (kL, 1, .inr (.inl oo))) :: wV M Y G0 S) s.heap := hP
  have hK : va_K (dC, dI) classes ((kL, .long) :: tV M) s := hK
  have hEw : ∀ (H : Heap) (locs : List Loc), va_S A s.heap H locs → ∀ U : State, U.heap = H → s.WarmedH U.vm → E A U := fun H locs hS U hU hW => X.kept A s U H locs hE hS hU hW
  have hl := lv_entry ([.ref M.o_Vt, .int p0, .int p1, .ref ou]) (n := 5) (Nat.le_of_ble_eq_true rfl)
  rw [lg_entry_eq]
  generalize (lg_sl ([.ref M.o_Vt, .int p0, .int p1, .ref ou]) ++ List.replicate (5 - (lg_sl ([.ref M.o_Vt, .int p0, .int p1, .ref ou])).length) Slot.unset).toArray = ls at hl ⊢
  have hl : lv_has ls 5 [(0, .ref M.o_Vt), (1, .int p0), (2, .int p1), (3, .ref ou)] := hl
  refine lv_aload_n hx hb d_La_letter_0 rfl (lv_at hl 3 rfl) ?_
  refine lv_iconst (v := 0) hx hb d_La_letter_1 (by decide) ?_
  refine lv_aload_n hx hb d_La_letter_2 rfl (lv_at hl 0 rfl) ?_
  refine lv_iload_n hx hb d_La_letter_3 rfl (lv_at hl 1 rfl) ?_
  refine lv_iload_n hx hb d_La_letter_4 rfl (lv_at hl 2 rfl) ?_
  have hPc := hP.sub (ws' := wV M Y G0 S) [1, 2, 3, 4, 5, 6, 7, 8, 9, 10, 11, 12, 13, 14, 15, 16, 17, 18, 19, 20, 21, 22, 23, 24, 25, 26, 27, 28, 29, 30, 31, 32, 33, 34, 35, 36, 37, 38, 39, 40, 41, 42, 43, 44, 45] rfl
  have hDc := hD.sub (ws' := wV M Y G0 S) [1, 2, 3, 4, 5, 6, 7, 8, 9, 10, 11, 12, 13, 14, 15, 16, 17, 18, 19, 20, 21, 22, 23, 24, 25, 26, 27, 28, 29, 30, 31, 32, 33, 34, 35, 36, 37, 38, 39, 40, 41, 42, 43, 44, 45] (by decide) rfl
  have hKc := hK.sub (tys' := tV M) [1, 2, 3] rfl
  have hFc := va_free (wc := wV M Y G0 S) hD hS hA [1, 2, 3, 4, 5, 6, 7, 8, 9, 10, 11, 12, 13, 14, 15, 16, 17, 18, 19, 20, 21, 22, 23, 24, 25, 26, 27, 28, 29, 30, 31, 32, 33, 34, 35, 36, 37, 38, 39, 40, 41, 42, 43, 44, 45] rfl
  refine va_calli (va_runV (As := [.int p0, .int p1]) (rest := [.int 0, .ref ou]) ⟨hx, hb, hml, hown, hts⟩ (l_Vt_letter l dC dI X _ h) (cwV 2 hts (gwV good_Lq (u_Lq_La _ k_La_30) (u_Lq_Vt _ k_Vt_119) (u_Lq_Vt _ k_Vt_120) (u_Lq_Vt _ k_Vt_0) (wcs (u_Lq_Vt _ k_Vt_121) u_Lq_Vq)) rfl rfl rfl (by decide +kernel) ⟨Nat.le_of_ble_eq_true rfl, Nat.le_of_ble_eq_true rfl⟩) (pv_ofE (X.same _) (fun U z1 z2 => X.mono _ _ U hFc (hEw _ _ hS U z1 z2)) hPc hKc hDc (va_recv hKc hPc (ci := 11) (q0 := 0) rfl rfl)) rfl rfl hl.1 rfl (lv_room (Nat.le_of_ble_eq_true rfl)) d_La_letter_5 ⟨Nat.le_of_eq (Nat.zero_add _), Nat.le_of_eq (Nat.zero_add _)⟩) hS (fun q _ h => hFc q h) hFc (fun r_ Y1 t H locs ht hvm hw hB hz1 hk1 hS => ?_)
  rw [hw]
  obtain ⟨hP1, -, hD1⟩ := hB
  rw [ht] at hP1
  obtain ⟨hP, hD⟩ := va_join (wr := [(ou, .inl (kL, 1, .inr (.inl oo)))]) (w1 := wV M Y1 G' S') hP hD [1, 2, 3, 4, 5, 6, 7, 8, 9, 10, 11, 12, 13, 14, 15, 16, 17, 18, 19, 20, 21, 22, 23, 24, 25, 26, 27, 28, 29, 30, 31, 32, 33, 34, 35, 36, 37, 38, 39, 40, 41, 42, 43, 44, 45] [0] rfl rfl (by decide) (by decide) hk1 hFc hP1 hD1
  refine W.widen (k := G'.gc - G0.gc) (n := G'.gs - G0.gs) (Nat.le_of_eq (Nat.zero_add _)) (Nat.le_of_eq (Nat.zero_add _)) ?_
  have hP : va_P (dC, dI) classes ((ou, .inl (kL, 1, .inr (.inl oo))) :: wV M Y1 G' S') H := hP
  have hD : va_D A ((ou, .inl (kL, 1, .inr (.inl oo))) :: wV M Y1 G' S') := hD
  refine lv_i2l hx hb d_La_letter_8 rfl ?_
  refine va_last hx hb hK hP hD hS 0 0 rfl rfl (by unfold vp_in; decide) d_La_letter_9 (fun H locs hP hD hS => ?_)
  refine lv_goto (tgt := 21) hx hb d_La_letter_10 (by decide) ?_
  refine lv_iconst (v := 0) hx hb d_La_letter_21 (by decide) ?_
  exact W.iret (v := 0) hx hb hr (fun t ht hW => ⟨⟨0, Y1, rfl, rfl, by rw [ht]; exact hP, va_K.moved hW.alike hK, hD⟩, hS.F ht⟩) hS.2.2 d_La_letter_22
set_option maxHeartbeats 4000000 in
set_option maxRecDepth 100000 in
theorem la_letter_1 (l : Launch) (hfl : l.flags = pinnedFlags ++ [noTraceFlag]) (dC : Nat → ClassId) (dI : Nat → Nat → Nat) {K : Nat} {M : CA} {E : (Nat → Prop) → State → Prop} (X : ly_X l dC dI K M E) (sz : Nat) {Y : CT} {G0 G' : CG} {S S' : CS} (ou : Nat) (kL : ClassId) (oo : Nat → Int64) {p0 : Int32} {p1 : Int32} (h : f_Vt_letter K G0 S p0 p1 = some (.error 1, G', S')) : Met l y_La_letter (.codeWith y_La_letter b_La_letter 5 (some .int) [(0, 10, 13, 19), (0, 10, 17, 25)] :: V_Lq) ({ frames := 9, cells := G'.gc - G0.gc, slots := G'.gs - G0.gs, locals := 246 }) (va_Pc [.ref M.o_Vt, .int p0, .int p1, .ref ou] (fun U => U.heap.size = sz ∧ at_ (dC, dI) (fun _ => True) ((ou, .inl (kL, 1, .inr (.inl oo))) :: wV M Y G0 S) ((kL, .long) :: tV M) U ∧ E (va_A ((ou, .inl (kL, 1, .inr (.inl oo))) :: wV M Y G0 S) sz) U)) (va_Qi (fun (r_ : Int32) (u : CT) => r_ = 1) (fun (u : CT) t => at_ (dC, dI) (va_A ((ou, .inl (kL, 1, .inr (.inl oo))) :: wV M Y G0 S) sz) ((ou, .inl (kL, 1, .inr (.inl oo))) :: wV M u G' S') ((kL, .long) :: tV M) t) (va_A ((ou, .inl (kL, 1, .inr (.inl oo))) :: wV M Y G0 S) sz)) (G'.gc - G0.gc) (G'.gs - G0.gs) (va_A ((ou, .inl (kL, 1, .inr (.inl oo))) :: wV M Y G0 S) sz) := by
  refine MetW.ofW (handlers := [(0, 10, 13, 19), (0, 10, 17, 25)]) (cc := b_La_letter) (maxL := 5) (ret := (some .int)) (by decide) rfl ?_
  intro p e s m args below meth c s₁ B hml htab hv
  obtain ⟨rfl, hsz, ⟨hP, hK, hD0⟩, hE⟩ := hv
  have hx := B.exec
  have hb := B.bytes
  have hr := B.returns
  have hlocks := B.notSynchronized
  have hts0 := atoms_spec (ws := .codeWith y_La_letter b_La_letter 5 (some .int) [(0, 10, 13, 19), (0, 10, 17, 25)] :: V_Lq) B.pre
  have hts : ∀ w ∈ V_Lq, w.before ([.ref M.o_Vt, .int p0, .int p1, .ref ou] : List Value).toArray s = true := fun w h => hts0 w (List.mem_cons_of_mem _ h)
  have hown : s.vm.findClass R_La = some m.cls := findClass_of_methodNamed B.named
  subst hsz
  have hD := hD0.self (sz := s.heap.size)
  generalize hAe : va_A ((ou, .inl (kL, 1, .inr (.inl oo))) :: wV M Y G0 S) s.heap.size = A at hD hE ⊢
  have hA : ∀ q : Nat, s.heap.size ≤ q → A q := fun q h => by rw [← hAe]; exact Or.inr h
  have hS : va_S A s.heap s.heap [] := va_S.rf
  have hP : va_P (dC, dI) classes ((ou, .inl (kL, 1, .inr (.inl oo))) :: wV M Y G0 S) s.heap := hP
  have hK : va_K (dC, dI) classes ((kL, .long) :: tV M) s := hK
  have hEw : ∀ (H : Heap) (locs : List Loc), va_S A s.heap H locs → ∀ U : State, U.heap = H → s.WarmedH U.vm → E A U := fun H locs hS U hU hW => X.kept A s U H locs hE hS hU hW
  have hl := lv_entry ([.ref M.o_Vt, .int p0, .int p1, .ref ou]) (n := 5) (Nat.le_of_ble_eq_true rfl)
  rw [lg_entry_eq]
  generalize (lg_sl ([.ref M.o_Vt, .int p0, .int p1, .ref ou]) ++ List.replicate (5 - (lg_sl ([.ref M.o_Vt, .int p0, .int p1, .ref ou])).length) Slot.unset).toArray = ls at hl ⊢
  have hl : lv_has ls 5 [(0, .ref M.o_Vt), (1, .int p0), (2, .int p1), (3, .ref ou)] := hl
  refine lv_aload_n hx hb d_La_letter_0 rfl (lv_at hl 3 rfl) ?_
  refine lv_iconst (v := 0) hx hb d_La_letter_1 (by decide) ?_
  refine lv_aload_n hx hb d_La_letter_2 rfl (lv_at hl 0 rfl) ?_
  refine lv_iload_n hx hb d_La_letter_3 rfl (lv_at hl 1 rfl) ?_
  refine lv_iload_n hx hb d_La_letter_4 rfl (lv_at hl 2 rfl) ?_
  have hPc := hP.sub (ws' := wV M Y G0 S) [1, 2, 3, 4, 5, 6, 7, 8, 9, 10, 11, 12, 13, 14, 15, 16, 17, 18, 19, 20, 21, 22, 23, 24, 25, 26, 27, 28, 29, 30, 31, 32, 33, 34, 35, 36, 37, 38, 39, 40, 41, 42, 43, 44, 45] rfl
  have hDc := hD.sub (ws' := wV M Y G0 S) [1, 2, 3, 4, 5, 6, 7, 8, 9, 10, 11, 12, 13, 14, 15, 16, 17, 18, 19, 20, 21, 22, 23, 24, 25, 26, 27, 28, 29, 30, 31, 32, 33, 34, 35, 36, 37, 38, 39, 40, 41, 42, 43, 44, 45] (by decide) rfl
  have hKc := hK.sub (tys' := tV M) [1, 2, 3] rfl
  have hFc := va_free (wc := wV M Y G0 S) hD hS hA [1, 2, 3, 4, 5, 6, 7, 8, 9, 10, 11, 12, 13, 14, 15, 16, 17, 18, 19, 20, 21, 22, 23, 24, 25, 26, 27, 28, 29, 30, 31, 32, 33, 34, 35, 36, 37, 38, 39, 40, 41, 42, 43, 44, 45] rfl
  obtain ⟨k0, hk0, -⟩ := classAt_of (hts _ (u_Lq_Vt _ k_Vt_115))
  refine x_catV (n := 2) (As := [.int p0, .int p1]) (rest := [.int 0, .ref ou]) (b := M.o_Vt) (st0 := [.int p1, .int p0, .ref M.o_Vt, .int 0, .ref ou]) ⟨hx, hb, hml, hown, hts⟩ (lt_Vt_letter_1 l hfl dC dI X _ h) (cwV 2 hts (gwV good_Lq (u_Lq_La _ k_La_30) (u_Lq_Vt _ k_Vt_119) (u_Lq_Vt _ k_Vt_120) (u_Lq_Vt _ k_Vt_0) (wcs (u_Lq_Vt _ k_Vt_121) u_Lq_Vq)) rfl rfl rfl (by decide +kernel) ⟨Nat.le_of_ble_eq_true rfl, Nat.le_of_ble_eq_true rfl⟩) (pv_ofE (X.same _) (fun U z1 z2 => X.mono _ _ U hFc (hEw _ _ hS U z1 z2)) hPc hKc hDc (va_recv hKc hPc (ci := 11) (q0 := 0) rfl rfl)) rfl hl.1 rfl (Nat.le_of_ble_eq_true rfl) d_La_letter_5 ⟨Nat.le_of_eq (Nat.zero_add _), Nat.le_of_eq (Nat.zero_add _)⟩ (E0 := "java/lang/IllegalStateException") (fun E st t z => z.1) ⟨k0, hk0⟩ (x := ⟨0, 10, 13, 19⟩) (pre := []) (nm := "java/lang/IllegalStateException") (cn := k0) htab (fun k1 z9 z hz => absurd hz List.not_mem_nil) rfl (by decide) (hts _ (u_Lq_La _ k_La_24)) hk0 (fun k1 z9 => by rw [hk0] at z9; cases z9; exact x_refl _ _) (fun qx st t L z1 z2 z3 z4 z5 => ?_)
  have hS := x_catS hS z1 z3.2.1 hFc z5
  obtain ⟨Y1, hP1, -, hD1⟩ := z3.2.2
  obtain ⟨hP, hD⟩ := va_join (wr := [(ou, .inl (kL, 1, .inr (.inl oo)))]) (w1 := wV M Y1 G' S') hP hD [1, 2, 3, 4, 5, 6, 7, 8, 9, 10, 11, 12, 13, 14, 15, 16, 17, 18, 19, 20, 21, 22, 23, 24, 25, 26, 27, 28, 29, 30, 31, 32, 33, 34, 35, 36, 37, 38, 39, 40, 41, 42, 43, 44, 45] [0] rfl rfl (by decide) (by decide) (fun q a b => by have z := z3.2.1.2 q (by rw [z1]; exact a) b; rw [z1] at z; exact z) hFc hP1 hD1
  have hP : va_P (dC, dI) classes ((ou, .inl (kL, 1, .inr (.inl oo))) :: wV M Y1 G' S') t.heap := hP
  have hD : va_D A ((ou, .inl (kL, 1, .inr (.inl oo))) :: wV M Y1 G' S') := hD
  generalize t.heap = H at hP hS ⊢
  show W _ _ _ _ _ _ _ _ _ _ _ _ _ _ _ (F0 m 13 ls [.ref qx])
  refine W.widen (k := G'.gc - G0.gc) (n := G'.gs - G0.gs) (Nat.le_of_eq (Nat.zero_add _)) (Nat.le_of_eq (Nat.zero_add _)) ?_
  refine lv_astore (lv' := [(4, .ref qx), (0, .ref M.o_Vt), (1, .int p0), (2, .int p1), (3, .ref ou)]) hx hb d_La_letter_13 hl (by decide) rfl (fun ls hl => ?_)
  refine lv_iconst (v := 1) hx hb d_La_letter_15 (by decide) ?_
  exact W.iret (v := 1) hx hb hr (fun t ht hW => ⟨⟨1, Y1, rfl, rfl, by rw [ht]; exact hP, va_K.moved hW.alike hK, hD⟩, hS.F ht⟩) hS.2.2 d_La_letter_16
set_option maxHeartbeats 4000000 in
set_option maxRecDepth 100000 in
theorem la_letter_2 (l : Launch) (hfl : l.flags = pinnedFlags ++ [noTraceFlag]) (dC : Nat → ClassId) (dI : Nat → Nat → Nat) {K : Nat} {M : CA} {E : (Nat → Prop) → State → Prop} (X : ly_X l dC dI K M E) (Xm : lz_miss E) (sz : Nat) {Y : CT} {G0 G' : CG} {S S' : CS} (ou : Nat) (kL : ClassId) (oo : Nat → Int64) {p0 : Int32} {p1 : Int32} (h : f_Vt_letter K G0 S p0 p1 = some (.error 2, G', S')) : Met l y_La_letter (.codeWith y_La_letter b_La_letter 5 (some .int) [(0, 10, 13, 19), (0, 10, 17, 25)] :: V_Lq) ({ frames := 9, cells := G'.gc - G0.gc, slots := G'.gs - G0.gs, locals := 246 }) (va_Pc [.ref M.o_Vt, .int p0, .int p1, .ref ou] (fun U => U.heap.size = sz ∧ at_ (dC, dI) (fun _ => True) ((ou, .inl (kL, 1, .inr (.inl oo))) :: wV M Y G0 S) ((kL, .long) :: tV M) U ∧ E (va_A ((ou, .inl (kL, 1, .inr (.inl oo))) :: wV M Y G0 S) sz) U)) (va_Qi (fun (r_ : Int32) (u : CT) => r_ = 2) (fun (u : CT) t => at_ (dC, dI) (va_A ((ou, .inl (kL, 1, .inr (.inl oo))) :: wV M Y G0 S) sz) ((ou, .inl (kL, 1, .inr (.inl oo))) :: wV M u G' S') ((kL, .long) :: tV M) t) (va_A ((ou, .inl (kL, 1, .inr (.inl oo))) :: wV M Y G0 S) sz)) (G'.gc - G0.gc) (G'.gs - G0.gs) (va_A ((ou, .inl (kL, 1, .inr (.inl oo))) :: wV M Y G0 S) sz) := by
  refine MetW.ofW (handlers := [(0, 10, 13, 19), (0, 10, 17, 25)]) (cc := b_La_letter) (maxL := 5) (ret := (some .int)) (by decide) rfl ?_
  intro p e s m args below meth c s₁ B hml htab hv
  obtain ⟨rfl, hsz, ⟨hP, hK, hD0⟩, hE⟩ := hv
  have hx := B.exec
  have hb := B.bytes
  have hr := B.returns
  have hlocks := B.notSynchronized
  have hts0 := atoms_spec (ws := .codeWith y_La_letter b_La_letter 5 (some .int) [(0, 10, 13, 19), (0, 10, 17, 25)] :: V_Lq) B.pre
  have hts : ∀ w ∈ V_Lq, w.before ([.ref M.o_Vt, .int p0, .int p1, .ref ou] : List Value).toArray s = true := fun w h => hts0 w (List.mem_cons_of_mem _ h)
  have hown : s.vm.findClass R_La = some m.cls := findClass_of_methodNamed B.named
  subst hsz
  have hD := hD0.self (sz := s.heap.size)
  generalize hAe : va_A ((ou, .inl (kL, 1, .inr (.inl oo))) :: wV M Y G0 S) s.heap.size = A at hD hE ⊢
  have hA : ∀ q : Nat, s.heap.size ≤ q → A q := fun q h => by rw [← hAe]; exact Or.inr h
  have hS : va_S A s.heap s.heap [] := va_S.rf
  have hP : va_P (dC, dI) classes ((ou, .inl (kL, 1, .inr (.inl oo))) :: wV M Y G0 S) s.heap := hP
  have hK : va_K (dC, dI) classes ((kL, .long) :: tV M) s := hK
  have hEw : ∀ (H : Heap) (locs : List Loc), va_S A s.heap H locs → ∀ U : State, U.heap = H → s.WarmedH U.vm → E A U := fun H locs hS U hU hW => X.kept A s U H locs hE hS hU hW
  have hl := lv_entry ([.ref M.o_Vt, .int p0, .int p1, .ref ou]) (n := 5) (Nat.le_of_ble_eq_true rfl)
  rw [lg_entry_eq]
  generalize (lg_sl ([.ref M.o_Vt, .int p0, .int p1, .ref ou]) ++ List.replicate (5 - (lg_sl ([.ref M.o_Vt, .int p0, .int p1, .ref ou])).length) Slot.unset).toArray = ls at hl ⊢
  have hl : lv_has ls 5 [(0, .ref M.o_Vt), (1, .int p0), (2, .int p1), (3, .ref ou)] := hl
  refine lv_aload_n hx hb d_La_letter_0 rfl (lv_at hl 3 rfl) ?_
  refine lv_iconst (v := 0) hx hb d_La_letter_1 (by decide) ?_
  refine lv_aload_n hx hb d_La_letter_2 rfl (lv_at hl 0 rfl) ?_
  refine lv_iload_n hx hb d_La_letter_3 rfl (lv_at hl 1 rfl) ?_
  refine lv_iload_n hx hb d_La_letter_4 rfl (lv_at hl 2 rfl) ?_
  have hPc := hP.sub (ws' := wV M Y G0 S) [1, 2, 3, 4, 5, 6, 7, 8, 9, 10, 11, 12, 13, 14, 15, 16, 17, 18, 19, 20, 21, 22, 23, 24, 25, 26, 27, 28, 29, 30, 31, 32, 33, 34, 35, 36, 37, 38, 39, 40, 41, 42, 43, 44, 45] rfl
  have hDc := hD.sub (ws' := wV M Y G0 S) [1, 2, 3, 4, 5, 6, 7, 8, 9, 10, 11, 12, 13, 14, 15, 16, 17, 18, 19, 20, 21, 22, 23, 24, 25, 26, 27, 28, 29, 30, 31, 32, 33, 34, 35, 36, 37, 38, 39, 40, 41, 42, 43, 44, 45] (by decide) rfl
  have hKc := hK.sub (tys' := tV M) [1, 2, 3] rfl
  have hFc := va_free (wc := wV M Y G0 S) hD hS hA [1, 2, 3, 4, 5, 6, 7, 8, 9, 10, 11, 12, 13, 14, 15, 16, 17, 18, 19, 20, 21, 22, 23, 24, 25, 26, 27, 28, 29, 30, 31, 32, 33, 34, 35, 36, 37, 38, 39, 40, 41, 42, 43, 44, 45] rfl
  obtain ⟨k0, hk0, -⟩ := classAt_of (hts _ (u_Lq_Vt _ k_Vt_126))
  obtain ⟨j0, hj0, -⟩ := classAt_of (hts _ (u_Lq_Vt _ k_Vt_115))
  have hmiss : ∀ k1, s.vm.findClass "java/lang/IndexOutOfBoundsException" = some k1 → ∀ z ∈ ([⟨0, 10, 13, 19⟩] : List ExceptionTableEntry), x_miss R_La ([.ref M.o_Vt, .int p0, .int p1, .ref ou] : List Value).toArray s k1 5 z := by
    intro k1 z9 z hz
    simp only [List.mem_cons, List.not_mem_nil, or_false] at hz
    subst hz
    exact ⟨by decide, by decide, "java/lang/IllegalStateException", j0, hts _ (u_Lq_La _ k_La_24), hj0, Xm A s hE "java/lang/IndexOutOfBoundsException" "java/lang/IllegalStateException" (by decide) k1 j0 z9 hj0⟩
  refine x_catV (n := 2) (As := [.int p0, .int p1]) (rest := [.int 0, .ref ou]) (b := M.o_Vt) (st0 := [.int p1, .int p0, .ref M.o_Vt, .int 0, .ref ou]) ⟨hx, hb, hml, hown, hts⟩ (lt_Vt_letter_2 l hfl dC dI X _ h) (cwV 2 hts (gwV good_Lq (u_Lq_La _ k_La_30) (u_Lq_Vt _ k_Vt_119) (u_Lq_Vt _ k_Vt_120) (u_Lq_Vt _ k_Vt_0) (wcs (u_Lq_Vt _ k_Vt_121) u_Lq_Vq)) rfl rfl rfl (by decide +kernel) ⟨Nat.le_of_ble_eq_true rfl, Nat.le_of_ble_eq_true rfl⟩) (pv_ofE (X.same _) (fun U z1 z2 => X.mono _ _ U hFc (hEw _ _ hS U z1 z2)) hPc hKc hDc (va_recv hKc hPc (ci := 11) (q0 := 0) rfl rfl)) rfl hl.1 rfl (Nat.le_of_ble_eq_true rfl) d_La_letter_5 ⟨Nat.le_of_eq (Nat.zero_add _), Nat.le_of_eq (Nat.zero_add _)⟩ (E0 := "java/lang/IndexOutOfBoundsException") (fun E st t z => z.1) ⟨k0, hk0⟩ (x := ⟨0, 10, 17, 25⟩) (pre := [⟨0, 10, 13, 19⟩]) (nm := "java/lang/IndexOutOfBoundsException") (cn := k0) htab hmiss rfl (by decide) (hts _ (u_Lq_La _ k_La_29)) hk0 (fun k1 z9 => by rw [hk0] at z9; cases z9; exact x_refl _ _) (fun qx st t L z1 z2 z3 z4 z5 => ?_)
  have hS := x_catS hS z1 z3.2.1 hFc z5
  obtain ⟨Y1, hP1, -, hD1⟩ := z3.2.2
  obtain ⟨hP, hD⟩ := va_join (wr := [(ou, .inl (kL, 1, .inr (.inl oo)))]) (w1 := wV M Y1 G' S') hP hD [1, 2, 3, 4, 5, 6, 7, 8, 9, 10, 11, 12, 13, 14, 15, 16, 17, 18, 19, 20, 21, 22, 23, 24, 25, 26, 27, 28, 29, 30, 31, 32, 33, 34, 35, 36, 37, 38, 39, 40, 41, 42, 43, 44, 45] [0] rfl rfl (by decide) (by decide) (fun q a b => by have z := z3.2.1.2 q (by rw [z1]; exact a) b; rw [z1] at z; exact z) hFc hP1 hD1
  have hP : va_P (dC, dI) classes ((ou, .inl (kL, 1, .inr (.inl oo))) :: wV M Y1 G' S') t.heap := hP
  have hD : va_D A ((ou, .inl (kL, 1, .inr (.inl oo))) :: wV M Y1 G' S') := hD
  generalize t.heap = H at hP hS ⊢
  show W _ _ _ _ _ _ _ _ _ _ _ _ _ _ _ (F0 m 17 ls [.ref qx])
  refine W.widen (k := G'.gc - G0.gc) (n := G'.gs - G0.gs) (Nat.le_of_eq (Nat.zero_add _)) (Nat.le_of_eq (Nat.zero_add _)) ?_
  refine lv_astore (lv' := [(4, .ref qx), (0, .ref M.o_Vt), (1, .int p0), (2, .int p1), (3, .ref ou)]) hx hb d_La_letter_17 hl (by decide) rfl (fun ls hl => ?_)
  refine lv_iconst (v := 2) hx hb d_La_letter_19 (by decide) ?_
  exact W.iret (v := 2) hx hb hr (fun t ht hW => ⟨⟨2, Y1, rfl, rfl, by rw [ht]; exact hP, va_K.moved hW.alike hK, hD⟩, hS.F ht⟩) hS.2.2 d_La_letter_20
set_option maxHeartbeats 4000000 in
set_option maxRecDepth 100000 in
theorem la_about_ok (l : Launch) (hfl : l.flags = pinnedFlags ++ [noTraceFlag]) (dC : Nat → ClassId) (dI : Nat → Nat → Nat) {K : Nat} {M : CA} {E : (Nat → Prop) → State → Prop} (X : ly_X l dC dI K M E) (sz : Nat) {Y : CT} {G0 G' : CG} {S S' : CS} (ou : Nat) (kL : ClassId) (oo : Nat → Int64) {p0 : Int32} {p1 : Int32} {r : Int64} (h : f_Vt_about K G0 S p0 p1 = some (.ok r, G', S')) : Met l y_La_about (.codeWith y_La_about b_La_about 5 (some .int) [(0, 9, 12, 19), (0, 9, 16, 25), (0, 9, 20, 13)] :: V_Lq) ({ frames := 9, cells := G'.gc - G0.gc, slots := G'.gs - G0.gs, locals := 248 }) (va_Pc [.ref M.o_Vt, .int p0, .int p1, .ref ou] (fun U => U.heap.size = sz ∧ at_ (dC, dI) (fun _ => True) ((ou, .inl (kL, 1, .inr (.inl oo))) :: wV M Y G0 S) ((kL, .long) :: tV M) U ∧ E (va_A ((ou, .inl (kL, 1, .inr (.inl oo))) :: wV M Y G0 S) sz) U)) (va_Qi (fun (r_ : Int32) (u : CT) => r_ = 0) (fun (u : CT) t => at_ (dC, dI) (va_A ((ou, .inl (kL, 1, .inr (.inl oo))) :: wV M Y G0 S) sz) ((ou, .inl (kL, 1, .inr (.inl (vp_updL oo (0 : Int32).toNatClampNeg r)))) :: wV M u G' S') ((kL, .long) :: tV M) t) (va_A ((ou, .inl (kL, 1, .inr (.inl oo))) :: wV M Y G0 S) sz)) (G'.gc - G0.gc) (G'.gs - G0.gs) (va_A ((ou, .inl (kL, 1, .inr (.inl oo))) :: wV M Y G0 S) sz) := by
  refine MetW.ofW (handlers := [(0, 9, 12, 19), (0, 9, 16, 25), (0, 9, 20, 13)]) (cc := b_La_about) (maxL := 5) (ret := (some .int)) (by decide) rfl ?_
  intro p e s m args below meth c s₁ B hml htab hv
  obtain ⟨rfl, hsz, ⟨hP, hK, hD0⟩, hE⟩ := hv
  have hx := B.exec
  have hb := B.bytes
  have hr := B.returns
  have hlocks := B.notSynchronized
  have hts0 := atoms_spec (ws := .codeWith y_La_about b_La_about 5 (some .int) [(0, 9, 12, 19), (0, 9, 16, 25), (0, 9, 20, 13)] :: V_Lq) B.pre
  have hts : ∀ w ∈ V_Lq, w.before ([.ref M.o_Vt, .int p0, .int p1, .ref ou] : List Value).toArray s = true := fun w h => hts0 w (List.mem_cons_of_mem _ h)
  have hown : s.vm.findClass R_La = some m.cls := findClass_of_methodNamed B.named
  subst hsz
  have hD := hD0.self (sz := s.heap.size)
  generalize hAe : va_A ((ou, .inl (kL, 1, .inr (.inl oo))) :: wV M Y G0 S) s.heap.size = A at hD hE ⊢
  have hA : ∀ q : Nat, s.heap.size ≤ q → A q := fun q h => by rw [← hAe]; exact Or.inr h
  have hS : va_S A s.heap s.heap [] := va_S.rf
  have hP : va_P (dC, dI) classes ((ou, .inl (kL, 1, .inr (.inl oo))) :: wV M Y G0 S) s.heap := hP
  have hK : va_K (dC, dI) classes ((kL, .long) :: tV M) s := hK
  have hEw : ∀ (H : Heap) (locs : List Loc), va_S A s.heap H locs → ∀ U : State, U.heap = H → s.WarmedH U.vm → E A U := fun H locs hS U hU hW => X.kept A s U H locs hE hS hU hW
  have hl := lv_entry ([.ref M.o_Vt, .int p0, .int p1, .ref ou]) (n := 5) (Nat.le_of_ble_eq_true rfl)
  rw [lg_entry_eq]
  generalize (lg_sl ([.ref M.o_Vt, .int p0, .int p1, .ref ou]) ++ List.replicate (5 - (lg_sl ([.ref M.o_Vt, .int p0, .int p1, .ref ou])).length) Slot.unset).toArray = ls at hl ⊢
  have hl : lv_has ls 5 [(0, .ref M.o_Vt), (1, .int p0), (2, .int p1), (3, .ref ou)] := hl
  refine lv_aload_n hx hb d_La_about_0 rfl (lv_at hl 3 rfl) ?_
  refine lv_iconst (v := 0) hx hb d_La_about_1 (by decide) ?_
  refine lv_aload_n hx hb d_La_about_2 rfl (lv_at hl 0 rfl) ?_
  refine lv_iload_n hx hb d_La_about_3 rfl (lv_at hl 1 rfl) ?_
  refine lv_iload_n hx hb d_La_about_4 rfl (lv_at hl 2 rfl) ?_
  have hPc := hP.sub (ws' := wV M Y G0 S) [1, 2, 3, 4, 5, 6, 7, 8, 9, 10, 11, 12, 13, 14, 15, 16, 17, 18, 19, 20, 21, 22, 23, 24, 25, 26, 27, 28, 29, 30, 31, 32, 33, 34, 35, 36, 37, 38, 39, 40, 41, 42, 43, 44, 45] rfl
  have hDc := hD.sub (ws' := wV M Y G0 S) [1, 2, 3, 4, 5, 6, 7, 8, 9, 10, 11, 12, 13, 14, 15, 16, 17, 18, 19, 20, 21, 22, 23, 24, 25, 26, 27, 28, 29, 30, 31, 32, 33, 34, 35, 36, 37, 38, 39, 40, 41, 42, 43, 44, 45] (by decide) rfl
  have hKc := hK.sub (tys' := tV M) [1, 2, 3] rfl
  have hFc := va_free (wc := wV M Y G0 S) hD hS hA [1, 2, 3, 4, 5, 6, 7, 8, 9, 10, 11, 12, 13, 14, 15, 16, 17, 18, 19, 20, 21, 22, 23, 24, 25, 26, 27, 28, 29, 30, 31, 32, 33, 34, 35, 36, 37, 38, 39, 40, 41, 42, 43, 44, 45] rfl
  refine va_calll (va_runV (As := [.int p0, .int p1]) (rest := [.int 0, .ref ou]) ⟨hx, hb, hml, hown, hts⟩ (l_Vt_about l dC dI X _ h) (cwV 2 hts (gwV good_Lq (u_Lq_La _ k_La_34) (u_Lq_Vt _ k_Vt_135) (u_Lq_Vt _ k_Vt_136) (u_Lq_Vt _ k_Vt_0) (wcs (u_Lq_Vt _ k_Vt_137) u_Lq_Vq)) rfl rfl rfl (by decide +kernel) ⟨Nat.le_of_ble_eq_true rfl, Nat.le_of_ble_eq_true rfl⟩) (pv_ofE (X.same _) (fun U z1 z2 => X.mono _ _ U hFc (hEw _ _ hS U z1 z2)) hPc hKc hDc (va_recv hKc hPc (ci := 11) (q0 := 0) rfl rfl)) rfl rfl hl.1 rfl (lv_room (Nat.le_of_ble_eq_true rfl)) d_La_about_5 ⟨Nat.le_of_eq (Nat.zero_add _), Nat.le_of_eq (Nat.zero_add _)⟩) hS (fun q _ h => hFc q h) hFc (fun r_ Y1 t H locs ht hvm hw hB hz1 hk1 hS => ?_)
  rw [hw]
  obtain ⟨hP1, -, hD1⟩ := hB
  rw [ht] at hP1
  obtain ⟨hP, hD⟩ := va_join (wr := [(ou, .inl (kL, 1, .inr (.inl oo)))]) (w1 := wV M Y1 G' S') hP hD [1, 2, 3, 4, 5, 6, 7, 8, 9, 10, 11, 12, 13, 14, 15, 16, 17, 18, 19, 20, 21, 22, 23, 24, 25, 26, 27, 28, 29, 30, 31, 32, 33, 34, 35, 36, 37, 38, 39, 40, 41, 42, 43, 44, 45] [0] rfl rfl (by decide) (by decide) hk1 hFc hP1 hD1
  refine W.widen (k := G'.gc - G0.gc) (n := G'.gs - G0.gs) (Nat.le_of_eq (Nat.zero_add _)) (Nat.le_of_eq (Nat.zero_add _)) ?_
  have hP : va_P (dC, dI) classes ((ou, .inl (kL, 1, .inr (.inl oo))) :: wV M Y1 G' S') H := hP
  have hD : va_D A ((ou, .inl (kL, 1, .inr (.inl oo))) :: wV M Y1 G' S') := hD
  refine va_last hx hb hK hP hD hS 0 0 rfl rfl (by unfold vp_in; decide) d_La_about_8 (fun H locs hP hD hS => ?_)
  refine lv_goto (tgt := 24) hx hb d_La_about_9 (by decide) ?_
  refine lv_iconst (v := 0) hx hb d_La_about_24 (by decide) ?_
  exact W.iret (v := 0) hx hb hr (fun t ht hW => ⟨⟨0, Y1, rfl, rfl, by rw [ht]; exact hP, va_K.moved hW.alike hK, hD⟩, hS.F ht⟩) hS.2.2 d_La_about_25
set_option maxHeartbeats 4000000 in
set_option maxRecDepth 100000 in
theorem la_about_0 (l : Launch) (hfl : l.flags = pinnedFlags ++ [noTraceFlag]) (dC : Nat → ClassId) (dI : Nat → Nat → Nat) {K : Nat} {M : CA} {E : (Nat → Prop) → State → Prop} (X : ly_X l dC dI K M E) (Xm : lz_miss E) (sz : Nat) {Y : CT} {G0 G' : CG} {S S' : CS} (ou : Nat) (kL : ClassId) (oo : Nat → Int64) {p0 : Int32} {p1 : Int32} (h : f_Vt_about K G0 S p0 p1 = some (.error 0, G', S')) : Met l y_La_about (.codeWith y_La_about b_La_about 5 (some .int) [(0, 9, 12, 19), (0, 9, 16, 25), (0, 9, 20, 13)] :: V_Lq) ({ frames := 9, cells := G'.gc - G0.gc, slots := G'.gs - G0.gs, locals := 248 }) (va_Pc [.ref M.o_Vt, .int p0, .int p1, .ref ou] (fun U => U.heap.size = sz ∧ at_ (dC, dI) (fun _ => True) ((ou, .inl (kL, 1, .inr (.inl oo))) :: wV M Y G0 S) ((kL, .long) :: tV M) U ∧ E (va_A ((ou, .inl (kL, 1, .inr (.inl oo))) :: wV M Y G0 S) sz) U)) (va_Qi (fun (r_ : Int32) (u : CT) => r_ = 3) (fun (u : CT) t => at_ (dC, dI) (va_A ((ou, .inl (kL, 1, .inr (.inl oo))) :: wV M Y G0 S) sz) ((ou, .inl (kL, 1, .inr (.inl oo))) :: wV M u G' S') ((kL, .long) :: tV M) t) (va_A ((ou, .inl (kL, 1, .inr (.inl oo))) :: wV M Y G0 S) sz)) (G'.gc - G0.gc) (G'.gs - G0.gs) (va_A ((ou, .inl (kL, 1, .inr (.inl oo))) :: wV M Y G0 S) sz) := by
  refine MetW.ofW (handlers := [(0, 9, 12, 19), (0, 9, 16, 25), (0, 9, 20, 13)]) (cc := b_La_about) (maxL := 5) (ret := (some .int)) (by decide) rfl ?_
  intro p e s m args below meth c s₁ B hml htab hv
  obtain ⟨rfl, hsz, ⟨hP, hK, hD0⟩, hE⟩ := hv
  have hx := B.exec
  have hb := B.bytes
  have hr := B.returns
  have hlocks := B.notSynchronized
  have hts0 := atoms_spec (ws := .codeWith y_La_about b_La_about 5 (some .int) [(0, 9, 12, 19), (0, 9, 16, 25), (0, 9, 20, 13)] :: V_Lq) B.pre
  have hts : ∀ w ∈ V_Lq, w.before ([.ref M.o_Vt, .int p0, .int p1, .ref ou] : List Value).toArray s = true := fun w h => hts0 w (List.mem_cons_of_mem _ h)
  have hown : s.vm.findClass R_La = some m.cls := findClass_of_methodNamed B.named
  subst hsz
  have hD := hD0.self (sz := s.heap.size)
  generalize hAe : va_A ((ou, .inl (kL, 1, .inr (.inl oo))) :: wV M Y G0 S) s.heap.size = A at hD hE ⊢
  have hA : ∀ q : Nat, s.heap.size ≤ q → A q := fun q h => by rw [← hAe]; exact Or.inr h
  have hS : va_S A s.heap s.heap [] := va_S.rf
  have hP : va_P (dC, dI) classes ((ou, .inl (kL, 1, .inr (.inl oo))) :: wV M Y G0 S) s.heap := hP
  have hK : va_K (dC, dI) classes ((kL, .long) :: tV M) s := hK
  have hEw : ∀ (H : Heap) (locs : List Loc), va_S A s.heap H locs → ∀ U : State, U.heap = H → s.WarmedH U.vm → E A U := fun H locs hS U hU hW => X.kept A s U H locs hE hS hU hW
  have hl := lv_entry ([.ref M.o_Vt, .int p0, .int p1, .ref ou]) (n := 5) (Nat.le_of_ble_eq_true rfl)
  rw [lg_entry_eq]
  generalize (lg_sl ([.ref M.o_Vt, .int p0, .int p1, .ref ou]) ++ List.replicate (5 - (lg_sl ([.ref M.o_Vt, .int p0, .int p1, .ref ou])).length) Slot.unset).toArray = ls at hl ⊢
  have hl : lv_has ls 5 [(0, .ref M.o_Vt), (1, .int p0), (2, .int p1), (3, .ref ou)] := hl
  refine lv_aload_n hx hb d_La_about_0 rfl (lv_at hl 3 rfl) ?_
  refine lv_iconst (v := 0) hx hb d_La_about_1 (by decide) ?_
  refine lv_aload_n hx hb d_La_about_2 rfl (lv_at hl 0 rfl) ?_
  refine lv_iload_n hx hb d_La_about_3 rfl (lv_at hl 1 rfl) ?_
  refine lv_iload_n hx hb d_La_about_4 rfl (lv_at hl 2 rfl) ?_
  have hPc := hP.sub (ws' := wV M Y G0 S) [1, 2, 3, 4, 5, 6, 7, 8, 9, 10, 11, 12, 13, 14, 15, 16, 17, 18, 19, 20, 21, 22, 23, 24, 25, 26, 27, 28, 29, 30, 31, 32, 33, 34, 35, 36, 37, 38, 39, 40, 41, 42, 43, 44, 45] rfl
  have hDc := hD.sub (ws' := wV M Y G0 S) [1, 2, 3, 4, 5, 6, 7, 8, 9, 10, 11, 12, 13, 14, 15, 16, 17, 18, 19, 20, 21, 22, 23, 24, 25, 26, 27, 28, 29, 30, 31, 32, 33, 34, 35, 36, 37, 38, 39, 40, 41, 42, 43, 44, 45] (by decide) rfl
  have hKc := hK.sub (tys' := tV M) [1, 2, 3] rfl
  have hFc := va_free (wc := wV M Y G0 S) hD hS hA [1, 2, 3, 4, 5, 6, 7, 8, 9, 10, 11, 12, 13, 14, 15, 16, 17, 18, 19, 20, 21, 22, 23, 24, 25, 26, 27, 28, 29, 30, 31, 32, 33, 34, 35, 36, 37, 38, 39, 40, 41, 42, 43, 44, 45] rfl
  obtain ⟨k0, hk0, -⟩ := classAt_of (hts _ (u_Lq_Vt _ k_Vt_101))
  obtain ⟨j0, hj0, -⟩ := classAt_of (hts _ (u_Lq_Vt _ k_Vt_115))
  obtain ⟨j1, hj1, -⟩ := classAt_of (hts _ (u_Lq_Vt _ k_Vt_126))
  have hmiss : ∀ k1, s.vm.findClass "java/lang/IllegalArgumentException" = some k1 → ∀ z ∈ ([⟨0, 9, 12, 19⟩, ⟨0, 9, 16, 25⟩] : List ExceptionTableEntry), x_miss R_La ([.ref M.o_Vt, .int p0, .int p1, .ref ou] : List Value).toArray s k1 5 z := by
    intro k1 z9 z hz
    simp only [List.mem_cons, List.not_mem_nil, or_false] at hz
    rcases hz with rfl | rfl
    · exact ⟨by decide, by decide, "java/lang/IllegalStateException", j0, hts _ (u_Lq_La _ k_La_24), hj0, Xm A s hE "java/lang/IllegalArgumentException" "java/lang/IllegalStateException" (by decide) k1 j0 z9 hj0⟩
    · exact ⟨by decide, by decide, "java/lang/IndexOutOfBoundsException", j1, hts _ (u_Lq_La _ k_La_29), hj1, Xm A s hE "java/lang/IllegalArgumentException" "java/lang/IndexOutOfBoundsException" (by decide) k1 j1 z9 hj1⟩
  refine x_catV (n := 2) (As := [.int p0, .int p1]) (rest := [.int 0, .ref ou]) (b := M.o_Vt) (st0 := [.int p1, .int p0, .ref M.o_Vt, .int 0, .ref ou]) ⟨hx, hb, hml, hown, hts⟩ (lt_Vt_about_0 l hfl dC dI X _ h) (cwV 2 hts (gwV good_Lq (u_Lq_La _ k_La_34) (u_Lq_Vt _ k_Vt_135) (u_Lq_Vt _ k_Vt_136) (u_Lq_Vt _ k_Vt_0) (wcs (u_Lq_Vt _ k_Vt_137) u_Lq_Vq)) rfl rfl rfl (by decide +kernel) ⟨Nat.le_of_ble_eq_true rfl, Nat.le_of_ble_eq_true rfl⟩) (pv_ofE (X.same _) (fun U z1 z2 => X.mono _ _ U hFc (hEw _ _ hS U z1 z2)) hPc hKc hDc (va_recv hKc hPc (ci := 11) (q0 := 0) rfl rfl)) rfl hl.1 rfl (Nat.le_of_ble_eq_true rfl) d_La_about_5 ⟨Nat.le_of_eq (Nat.zero_add _), Nat.le_of_eq (Nat.zero_add _)⟩ (E0 := "java/lang/IllegalArgumentException") (fun E st t z => z.1) ⟨k0, hk0⟩ (x := ⟨0, 9, 20, 13⟩) (pre := [⟨0, 9, 12, 19⟩, ⟨0, 9, 16, 25⟩]) (nm := "java/lang/IllegalArgumentException") (cn := k0) htab hmiss rfl (by decide) (hts _ (u_Lq_La _ k_La_19)) hk0 (fun k1 z9 => by rw [hk0] at z9; cases z9; exact x_refl _ _) (fun qx st t L z1 z2 z3 z4 z5 => ?_)
  have hS := x_catS hS z1 z3.2.1 hFc z5
  obtain ⟨Y1, hP1, -, hD1⟩ := z3.2.2
  obtain ⟨hP, hD⟩ := va_join (wr := [(ou, .inl (kL, 1, .inr (.inl oo)))]) (w1 := wV M Y1 G' S') hP hD [1, 2, 3, 4, 5, 6, 7, 8, 9, 10, 11, 12, 13, 14, 15, 16, 17, 18, 19, 20, 21, 22, 23, 24, 25, 26, 27, 28, 29, 30, 31, 32, 33, 34, 35, 36, 37, 38, 39, 40, 41, 42, 43, 44, 45] [0] rfl rfl (by decide) (by decide) (fun q a b => by have z := z3.2.1.2 q (by rw [z1]; exact a) b; rw [z1] at z; exact z) hFc hP1 hD1
  have hP : va_P (dC, dI) classes ((ou, .inl (kL, 1, .inr (.inl oo))) :: wV M Y1 G' S') t.heap := hP
  have hD : va_D A ((ou, .inl (kL, 1, .inr (.inl oo))) :: wV M Y1 G' S') := hD
  generalize t.heap = H at hP hS ⊢
  show W _ _ _ _ _ _ _ _ _ _ _ _ _ _ _ (F0 m 20 ls [.ref qx])
  refine W.widen (k := G'.gc - G0.gc) (n := G'.gs - G0.gs) (Nat.le_of_eq (Nat.zero_add _)) (Nat.le_of_eq (Nat.zero_add _)) ?_
  refine lv_astore (lv' := [(4, .ref qx), (0, .ref M.o_Vt), (1, .int p0), (2, .int p1), (3, .ref ou)]) hx hb d_La_about_20 hl (by decide) rfl (fun ls hl => ?_)
  refine lv_iconst (v := 3) hx hb d_La_about_22 (by decide) ?_
  exact W.iret (v := 3) hx hb hr (fun t ht hW => ⟨⟨3, Y1, rfl, rfl, by rw [ht]; exact hP, va_K.moved hW.alike hK, hD⟩, hS.F ht⟩) hS.2.2 d_La_about_23
set_option maxHeartbeats 4000000 in
set_option maxRecDepth 100000 in
theorem la_about_1 (l : Launch) (hfl : l.flags = pinnedFlags ++ [noTraceFlag]) (dC : Nat → ClassId) (dI : Nat → Nat → Nat) {K : Nat} {M : CA} {E : (Nat → Prop) → State → Prop} (X : ly_X l dC dI K M E) (sz : Nat) {Y : CT} {G0 G' : CG} {S S' : CS} (ou : Nat) (kL : ClassId) (oo : Nat → Int64) {p0 : Int32} {p1 : Int32} (h : f_Vt_about K G0 S p0 p1 = some (.error 1, G', S')) : Met l y_La_about (.codeWith y_La_about b_La_about 5 (some .int) [(0, 9, 12, 19), (0, 9, 16, 25), (0, 9, 20, 13)] :: V_Lq) ({ frames := 9, cells := G'.gc - G0.gc, slots := G'.gs - G0.gs, locals := 248 }) (va_Pc [.ref M.o_Vt, .int p0, .int p1, .ref ou] (fun U => U.heap.size = sz ∧ at_ (dC, dI) (fun _ => True) ((ou, .inl (kL, 1, .inr (.inl oo))) :: wV M Y G0 S) ((kL, .long) :: tV M) U ∧ E (va_A ((ou, .inl (kL, 1, .inr (.inl oo))) :: wV M Y G0 S) sz) U)) (va_Qi (fun (r_ : Int32) (u : CT) => r_ = 1) (fun (u : CT) t => at_ (dC, dI) (va_A ((ou, .inl (kL, 1, .inr (.inl oo))) :: wV M Y G0 S) sz) ((ou, .inl (kL, 1, .inr (.inl oo))) :: wV M u G' S') ((kL, .long) :: tV M) t) (va_A ((ou, .inl (kL, 1, .inr (.inl oo))) :: wV M Y G0 S) sz)) (G'.gc - G0.gc) (G'.gs - G0.gs) (va_A ((ou, .inl (kL, 1, .inr (.inl oo))) :: wV M Y G0 S) sz) := by
  refine MetW.ofW (handlers := [(0, 9, 12, 19), (0, 9, 16, 25), (0, 9, 20, 13)]) (cc := b_La_about) (maxL := 5) (ret := (some .int)) (by decide) rfl ?_
  intro p e s m args below meth c s₁ B hml htab hv
  obtain ⟨rfl, hsz, ⟨hP, hK, hD0⟩, hE⟩ := hv
  have hx := B.exec
  have hb := B.bytes
  have hr := B.returns
  have hlocks := B.notSynchronized
  have hts0 := atoms_spec (ws := .codeWith y_La_about b_La_about 5 (some .int) [(0, 9, 12, 19), (0, 9, 16, 25), (0, 9, 20, 13)] :: V_Lq) B.pre
  have hts : ∀ w ∈ V_Lq, w.before ([.ref M.o_Vt, .int p0, .int p1, .ref ou] : List Value).toArray s = true := fun w h => hts0 w (List.mem_cons_of_mem _ h)
  have hown : s.vm.findClass R_La = some m.cls := findClass_of_methodNamed B.named
  subst hsz
  have hD := hD0.self (sz := s.heap.size)
  generalize hAe : va_A ((ou, .inl (kL, 1, .inr (.inl oo))) :: wV M Y G0 S) s.heap.size = A at hD hE ⊢
  have hA : ∀ q : Nat, s.heap.size ≤ q → A q := fun q h => by rw [← hAe]; exact Or.inr h
  have hS : va_S A s.heap s.heap [] := va_S.rf
  have hP : va_P (dC, dI) classes ((ou, .inl (kL, 1, .inr (.inl oo))) :: wV M Y G0 S) s.heap := hP
  have hK : va_K (dC, dI) classes ((kL, .long) :: tV M) s := hK
  have hEw : ∀ (H : Heap) (locs : List Loc), va_S A s.heap H locs → ∀ U : State, U.heap = H → s.WarmedH U.vm → E A U := fun H locs hS U hU hW => X.kept A s U H locs hE hS hU hW
  have hl := lv_entry ([.ref M.o_Vt, .int p0, .int p1, .ref ou]) (n := 5) (Nat.le_of_ble_eq_true rfl)
  rw [lg_entry_eq]
  generalize (lg_sl ([.ref M.o_Vt, .int p0, .int p1, .ref ou]) ++ List.replicate (5 - (lg_sl ([.ref M.o_Vt, .int p0, .int p1, .ref ou])).length) Slot.unset).toArray = ls at hl ⊢
  have hl : lv_has ls 5 [(0, .ref M.o_Vt), (1, .int p0), (2, .int p1), (3, .ref ou)] := hl
  refine lv_aload_n hx hb d_La_about_0 rfl (lv_at hl 3 rfl) ?_
  refine lv_iconst (v := 0) hx hb d_La_about_1 (by decide) ?_
  refine lv_aload_n hx hb d_La_about_2 rfl (lv_at hl 0 rfl) ?_
  refine lv_iload_n hx hb d_La_about_3 rfl (lv_at hl 1 rfl) ?_
  refine lv_iload_n hx hb d_La_about_4 rfl (lv_at hl 2 rfl) ?_
  have hPc := hP.sub (ws' := wV M Y G0 S) [1, 2, 3, 4, 5, 6, 7, 8, 9, 10, 11, 12, 13, 14, 15, 16, 17, 18, 19, 20, 21, 22, 23, 24, 25, 26, 27, 28, 29, 30, 31, 32, 33, 34, 35, 36, 37, 38, 39, 40, 41, 42, 43, 44, 45] rfl
  have hDc := hD.sub (ws' := wV M Y G0 S) [1, 2, 3, 4, 5, 6, 7, 8, 9, 10, 11, 12, 13, 14, 15, 16, 17, 18, 19, 20, 21, 22, 23, 24, 25, 26, 27, 28, 29, 30, 31, 32, 33, 34, 35, 36, 37, 38, 39, 40, 41, 42, 43, 44, 45] (by decide) rfl
  have hKc := hK.sub (tys' := tV M) [1, 2, 3] rfl
  have hFc := va_free (wc := wV M Y G0 S) hD hS hA [1, 2, 3, 4, 5, 6, 7, 8, 9, 10, 11, 12, 13, 14, 15, 16, 17, 18, 19, 20, 21, 22, 23, 24, 25, 26, 27, 28, 29, 30, 31, 32, 33, 34, 35, 36, 37, 38, 39, 40, 41, 42, 43, 44, 45] rfl
  obtain ⟨k0, hk0, -⟩ := classAt_of (hts _ (u_Lq_Vt _ k_Vt_115))
  refine x_catV (n := 2) (As := [.int p0, .int p1]) (rest := [.int 0, .ref ou]) (b := M.o_Vt) (st0 := [.int p1, .int p0, .ref M.o_Vt, .int 0, .ref ou]) ⟨hx, hb, hml, hown, hts⟩ (lt_Vt_about_1 l hfl dC dI X _ h) (cwV 2 hts (gwV good_Lq (u_Lq_La _ k_La_34) (u_Lq_Vt _ k_Vt_135) (u_Lq_Vt _ k_Vt_136) (u_Lq_Vt _ k_Vt_0) (wcs (u_Lq_Vt _ k_Vt_137) u_Lq_Vq)) rfl rfl rfl (by decide +kernel) ⟨Nat.le_of_ble_eq_true rfl, Nat.le_of_ble_eq_true rfl⟩) (pv_ofE (X.same _) (fun U z1 z2 => X.mono _ _ U hFc (hEw _ _ hS U z1 z2)) hPc hKc hDc (va_recv hKc hPc (ci := 11) (q0 := 0) rfl rfl)) rfl hl.1 rfl (Nat.le_of_ble_eq_true rfl) d_La_about_5 ⟨Nat.le_of_eq (Nat.zero_add _), Nat.le_of_eq (Nat.zero_add _)⟩ (E0 := "java/lang/IllegalStateException") (fun E st t z => z.1) ⟨k0, hk0⟩ (x := ⟨0, 9, 12, 19⟩) (pre := []) (nm := "java/lang/IllegalStateException") (cn := k0) htab (fun k1 z9 z hz => absurd hz List.not_mem_nil) rfl (by decide) (hts _ (u_Lq_La _ k_La_24)) hk0 (fun k1 z9 => by rw [hk0] at z9; cases z9; exact x_refl _ _) (fun qx st t L z1 z2 z3 z4 z5 => ?_)
  have hS := x_catS hS z1 z3.2.1 hFc z5
  obtain ⟨Y1, hP1, -, hD1⟩ := z3.2.2
  obtain ⟨hP, hD⟩ := va_join (wr := [(ou, .inl (kL, 1, .inr (.inl oo)))]) (w1 := wV M Y1 G' S') hP hD [1, 2, 3, 4, 5, 6, 7, 8, 9, 10, 11, 12, 13, 14, 15, 16, 17, 18, 19, 20, 21, 22, 23, 24, 25, 26, 27, 28, 29, 30, 31, 32, 33, 34, 35, 36, 37, 38, 39, 40, 41, 42, 43, 44, 45] [0] rfl rfl (by decide) (by decide) (fun q a b => by have z := z3.2.1.2 q (by rw [z1]; exact a) b; rw [z1] at z; exact z) hFc hP1 hD1
  have hP : va_P (dC, dI) classes ((ou, .inl (kL, 1, .inr (.inl oo))) :: wV M Y1 G' S') t.heap := hP
  have hD : va_D A ((ou, .inl (kL, 1, .inr (.inl oo))) :: wV M Y1 G' S') := hD
  generalize t.heap = H at hP hS ⊢
  show W _ _ _ _ _ _ _ _ _ _ _ _ _ _ _ (F0 m 12 ls [.ref qx])
  refine W.widen (k := G'.gc - G0.gc) (n := G'.gs - G0.gs) (Nat.le_of_eq (Nat.zero_add _)) (Nat.le_of_eq (Nat.zero_add _)) ?_
  refine lv_astore (lv' := [(4, .ref qx), (0, .ref M.o_Vt), (1, .int p0), (2, .int p1), (3, .ref ou)]) hx hb d_La_about_12 hl (by decide) rfl (fun ls hl => ?_)
  refine lv_iconst (v := 1) hx hb d_La_about_14 (by decide) ?_
  exact W.iret (v := 1) hx hb hr (fun t ht hW => ⟨⟨1, Y1, rfl, rfl, by rw [ht]; exact hP, va_K.moved hW.alike hK, hD⟩, hS.F ht⟩) hS.2.2 d_La_about_15
set_option maxHeartbeats 4000000 in
set_option maxRecDepth 100000 in
theorem la_about_2 (l : Launch) (hfl : l.flags = pinnedFlags ++ [noTraceFlag]) (dC : Nat → ClassId) (dI : Nat → Nat → Nat) {K : Nat} {M : CA} {E : (Nat → Prop) → State → Prop} (X : ly_X l dC dI K M E) (Xm : lz_miss E) (sz : Nat) {Y : CT} {G0 G' : CG} {S S' : CS} (ou : Nat) (kL : ClassId) (oo : Nat → Int64) {p0 : Int32} {p1 : Int32} (h : f_Vt_about K G0 S p0 p1 = some (.error 2, G', S')) : Met l y_La_about (.codeWith y_La_about b_La_about 5 (some .int) [(0, 9, 12, 19), (0, 9, 16, 25), (0, 9, 20, 13)] :: V_Lq) ({ frames := 9, cells := G'.gc - G0.gc, slots := G'.gs - G0.gs, locals := 248 }) (va_Pc [.ref M.o_Vt, .int p0, .int p1, .ref ou] (fun U => U.heap.size = sz ∧ at_ (dC, dI) (fun _ => True) ((ou, .inl (kL, 1, .inr (.inl oo))) :: wV M Y G0 S) ((kL, .long) :: tV M) U ∧ E (va_A ((ou, .inl (kL, 1, .inr (.inl oo))) :: wV M Y G0 S) sz) U)) (va_Qi (fun (r_ : Int32) (u : CT) => r_ = 2) (fun (u : CT) t => at_ (dC, dI) (va_A ((ou, .inl (kL, 1, .inr (.inl oo))) :: wV M Y G0 S) sz) ((ou, .inl (kL, 1, .inr (.inl oo))) :: wV M u G' S') ((kL, .long) :: tV M) t) (va_A ((ou, .inl (kL, 1, .inr (.inl oo))) :: wV M Y G0 S) sz)) (G'.gc - G0.gc) (G'.gs - G0.gs) (va_A ((ou, .inl (kL, 1, .inr (.inl oo))) :: wV M Y G0 S) sz) := by
  refine MetW.ofW (handlers := [(0, 9, 12, 19), (0, 9, 16, 25), (0, 9, 20, 13)]) (cc := b_La_about) (maxL := 5) (ret := (some .int)) (by decide) rfl ?_
  intro p e s m args below meth c s₁ B hml htab hv
  obtain ⟨rfl, hsz, ⟨hP, hK, hD0⟩, hE⟩ := hv
  have hx := B.exec
  have hb := B.bytes
  have hr := B.returns
  have hlocks := B.notSynchronized
  have hts0 := atoms_spec (ws := .codeWith y_La_about b_La_about 5 (some .int) [(0, 9, 12, 19), (0, 9, 16, 25), (0, 9, 20, 13)] :: V_Lq) B.pre
  have hts : ∀ w ∈ V_Lq, w.before ([.ref M.o_Vt, .int p0, .int p1, .ref ou] : List Value).toArray s = true := fun w h => hts0 w (List.mem_cons_of_mem _ h)
  have hown : s.vm.findClass R_La = some m.cls := findClass_of_methodNamed B.named
  subst hsz
  have hD := hD0.self (sz := s.heap.size)
  generalize hAe : va_A ((ou, .inl (kL, 1, .inr (.inl oo))) :: wV M Y G0 S) s.heap.size = A at hD hE ⊢
  have hA : ∀ q : Nat, s.heap.size ≤ q → A q := fun q h => by rw [← hAe]; exact Or.inr h
  have hS : va_S A s.heap s.heap [] := va_S.rf
  have hP : va_P (dC, dI) classes ((ou, .inl (kL, 1, .inr (.inl oo))) :: wV M Y G0 S) s.heap := hP
  have hK : va_K (dC, dI) classes ((kL, .long) :: tV M) s := hK
  have hEw : ∀ (H : Heap) (locs : List Loc), va_S A s.heap H locs → ∀ U : State, U.heap = H → s.WarmedH U.vm → E A U := fun H locs hS U hU hW => X.kept A s U H locs hE hS hU hW
  have hl := lv_entry ([.ref M.o_Vt, .int p0, .int p1, .ref ou]) (n := 5) (Nat.le_of_ble_eq_true rfl)
  rw [lg_entry_eq]
  generalize (lg_sl ([.ref M.o_Vt, .int p0, .int p1, .ref ou]) ++ List.replicate (5 - (lg_sl ([.ref M.o_Vt, .int p0, .int p1, .ref ou])).length) Slot.unset).toArray = ls at hl ⊢
  have hl : lv_has ls 5 [(0, .ref M.o_Vt), (1, .int p0), (2, .int p1), (3, .ref ou)] := hl
  refine lv_aload_n hx hb d_La_about_0 rfl (lv_at hl 3 rfl) ?_
  refine lv_iconst (v := 0) hx hb d_La_about_1 (by decide) ?_
  refine lv_aload_n hx hb d_La_about_2 rfl (lv_at hl 0 rfl) ?_
  refine lv_iload_n hx hb d_La_about_3 rfl (lv_at hl 1 rfl) ?_
  refine lv_iload_n hx hb d_La_about_4 rfl (lv_at hl 2 rfl) ?_
  have hPc := hP.sub (ws' := wV M Y G0 S) [1, 2, 3, 4, 5, 6, 7, 8, 9, 10, 11, 12, 13, 14, 15, 16, 17, 18, 19, 20, 21, 22, 23, 24, 25, 26, 27, 28, 29, 30, 31, 32, 33, 34, 35, 36, 37, 38, 39, 40, 41, 42, 43, 44, 45] rfl
  have hDc := hD.sub (ws' := wV M Y G0 S) [1, 2, 3, 4, 5, 6, 7, 8, 9, 10, 11, 12, 13, 14, 15, 16, 17, 18, 19, 20, 21, 22, 23, 24, 25, 26, 27, 28, 29, 30, 31, 32, 33, 34, 35, 36, 37, 38, 39, 40, 41, 42, 43, 44, 45] (by decide) rfl
  have hKc := hK.sub (tys' := tV M) [1, 2, 3] rfl
  have hFc := va_free (wc := wV M Y G0 S) hD hS hA [1, 2, 3, 4, 5, 6, 7, 8, 9, 10, 11, 12, 13, 14, 15, 16, 17, 18, 19, 20, 21, 22, 23, 24, 25, 26, 27, 28, 29, 30, 31, 32, 33, 34, 35, 36, 37, 38, 39, 40, 41, 42, 43, 44, 45] rfl
  obtain ⟨k0, hk0, -⟩ := classAt_of (hts _ (u_Lq_Vt _ k_Vt_126))
  obtain ⟨j0, hj0, -⟩ := classAt_of (hts _ (u_Lq_Vt _ k_Vt_115))
  have hmiss : ∀ k1, s.vm.findClass "java/lang/IndexOutOfBoundsException" = some k1 → ∀ z ∈ ([⟨0, 9, 12, 19⟩] : List ExceptionTableEntry), x_miss R_La ([.ref M.o_Vt, .int p0, .int p1, .ref ou] : List Value).toArray s k1 5 z := by
    intro k1 z9 z hz
    simp only [List.mem_cons, List.not_mem_nil, or_false] at hz
    subst hz
    exact ⟨by decide, by decide, "java/lang/IllegalStateException", j0, hts _ (u_Lq_La _ k_La_24), hj0, Xm A s hE "java/lang/IndexOutOfBoundsException" "java/lang/IllegalStateException" (by decide) k1 j0 z9 hj0⟩
  refine x_catV (n := 2) (As := [.int p0, .int p1]) (rest := [.int 0, .ref ou]) (b := M.o_Vt) (st0 := [.int p1, .int p0, .ref M.o_Vt, .int 0, .ref ou]) ⟨hx, hb, hml, hown, hts⟩ (lt_Vt_about_2 l hfl dC dI X _ h) (cwV 2 hts (gwV good_Lq (u_Lq_La _ k_La_34) (u_Lq_Vt _ k_Vt_135) (u_Lq_Vt _ k_Vt_136) (u_Lq_Vt _ k_Vt_0) (wcs (u_Lq_Vt _ k_Vt_137) u_Lq_Vq)) rfl rfl rfl (by decide +kernel) ⟨Nat.le_of_ble_eq_true rfl, Nat.le_of_ble_eq_true rfl⟩) (pv_ofE (X.same _) (fun U z1 z2 => X.mono _ _ U hFc (hEw _ _ hS U z1 z2)) hPc hKc hDc (va_recv hKc hPc (ci := 11) (q0 := 0) rfl rfl)) rfl hl.1 rfl (Nat.le_of_ble_eq_true rfl) d_La_about_5 ⟨Nat.le_of_eq (Nat.zero_add _), Nat.le_of_eq (Nat.zero_add _)⟩ (E0 := "java/lang/IndexOutOfBoundsException") (fun E st t z => z.1) ⟨k0, hk0⟩ (x := ⟨0, 9, 16, 25⟩) (pre := [⟨0, 9, 12, 19⟩]) (nm := "java/lang/IndexOutOfBoundsException") (cn := k0) htab hmiss rfl (by decide) (hts _ (u_Lq_La _ k_La_29)) hk0 (fun k1 z9 => by rw [hk0] at z9; cases z9; exact x_refl _ _) (fun qx st t L z1 z2 z3 z4 z5 => ?_)
  have hS := x_catS hS z1 z3.2.1 hFc z5
  obtain ⟨Y1, hP1, -, hD1⟩ := z3.2.2
  obtain ⟨hP, hD⟩ := va_join (wr := [(ou, .inl (kL, 1, .inr (.inl oo)))]) (w1 := wV M Y1 G' S') hP hD [1, 2, 3, 4, 5, 6, 7, 8, 9, 10, 11, 12, 13, 14, 15, 16, 17, 18, 19, 20, 21, 22, 23, 24, 25, 26, 27, 28, 29, 30, 31, 32, 33, 34, 35, 36, 37, 38, 39, 40, 41, 42, 43, 44, 45] [0] rfl rfl (by decide) (by decide) (fun q a b => by have z := z3.2.1.2 q (by rw [z1]; exact a) b; rw [z1] at z; exact z) hFc hP1 hD1
  have hP : va_P (dC, dI) classes ((ou, .inl (kL, 1, .inr (.inl oo))) :: wV M Y1 G' S') t.heap := hP
  have hD : va_D A ((ou, .inl (kL, 1, .inr (.inl oo))) :: wV M Y1 G' S') := hD
  generalize t.heap = H at hP hS ⊢
  show W _ _ _ _ _ _ _ _ _ _ _ _ _ _ _ (F0 m 16 ls [.ref qx])
  refine W.widen (k := G'.gc - G0.gc) (n := G'.gs - G0.gs) (Nat.le_of_eq (Nat.zero_add _)) (Nat.le_of_eq (Nat.zero_add _)) ?_
  refine lv_astore (lv' := [(4, .ref qx), (0, .ref M.o_Vt), (1, .int p0), (2, .int p1), (3, .ref ou)]) hx hb d_La_about_16 hl (by decide) rfl (fun ls hl => ?_)
  refine lv_iconst (v := 2) hx hb d_La_about_18 (by decide) ?_
  exact W.iret (v := 2) hx hb hr (fun t ht hW => ⟨⟨2, Y1, rfl, rfl, by rw [ht]; exact hP, va_K.moved hW.alike hK, hD⟩, hS.F ht⟩) hS.2.2 d_La_about_19
set_option maxHeartbeats 4000000 in
set_option maxRecDepth 100000 in
theorem la_content_ok (l : Launch) (hfl : l.flags = pinnedFlags ++ [noTraceFlag]) (dC : Nat → ClassId) (dI : Nat → Nat → Nat) {K : Nat} {M : CA} {E : (Nat → Prop) → State → Prop} (X : ly_X l dC dI K M E) (sz : Nat) {Y : CT} {G0 G' : CG} {S S' : CS} (ou : Nat) (kL : ClassId) (oo : Nat → Int64) {p0 : Int32} {p1 : Int32} {r : Int32} (h : f_Vt_content K G0 S p0 p1 = some (.ok r, G', S')) : Met l y_La_content (.codeWith y_La_content b_La_content 5 (some .int) [(0, 10, 13, 19), (0, 10, 17, 25)] :: V_Lq) ({ frames := 9, cells := G'.gc - G0.gc, slots := G'.gs - G0.gs, locals := 247 }) (va_Pc [.ref M.o_Vt, .int p0, .int p1, .ref ou] (fun U => U.heap.size = sz ∧ at_ (dC, dI) (fun _ => True) ((ou, .inl (kL, 1, .inr (.inl oo))) :: wV M Y G0 S) ((kL, .long) :: tV M) U ∧ E (va_A ((ou, .inl (kL, 1, .inr (.inl oo))) :: wV M Y G0 S) sz) U)) (va_Qi (fun (r_ : Int32) (u : CT) => r_ = 0) (fun (u : CT) t => at_ (dC, dI) (va_A ((ou, .inl (kL, 1, .inr (.inl oo))) :: wV M Y G0 S) sz) ((ou, .inl (kL, 1, .inr (.inl (vp_updL oo (0 : Int32).toNatClampNeg r.toInt64)))) :: wV M u G' S') ((kL, .long) :: tV M) t) (va_A ((ou, .inl (kL, 1, .inr (.inl oo))) :: wV M Y G0 S) sz)) (G'.gc - G0.gc) (G'.gs - G0.gs) (va_A ((ou, .inl (kL, 1, .inr (.inl oo))) :: wV M Y G0 S) sz) := by
  refine MetW.ofW (handlers := [(0, 10, 13, 19), (0, 10, 17, 25)]) (cc := b_La_content) (maxL := 5) (ret := (some .int)) (by decide) rfl ?_
  intro p e s m args below meth c s₁ B hml htab hv
  obtain ⟨rfl, hsz, ⟨hP, hK, hD0⟩, hE⟩ := hv
  have hx := B.exec
  have hb := B.bytes
  have hr := B.returns
  have hlocks := B.notSynchronized
  have hts0 := atoms_spec (ws := .codeWith y_La_content b_La_content 5 (some .int) [(0, 10, 13, 19), (0, 10, 17, 25)] :: V_Lq) B.pre
  have hts : ∀ w ∈ V_Lq, w.before ([.ref M.o_Vt, .int p0, .int p1, .ref ou] : List Value).toArray s = true := fun w h => hts0 w (List.mem_cons_of_mem _ h)
  have hown : s.vm.findClass R_La = some m.cls := findClass_of_methodNamed B.named
  subst hsz
  have hD := hD0.self (sz := s.heap.size)
  generalize hAe : va_A ((ou, .inl (kL, 1, .inr (.inl oo))) :: wV M Y G0 S) s.heap.size = A at hD hE ⊢
  have hA : ∀ q : Nat, s.heap.size ≤ q → A q := fun q h => by rw [← hAe]; exact Or.inr h
  have hS : va_S A s.heap s.heap [] := va_S.rf
  have hP : va_P (dC, dI) classes ((ou, .inl (kL, 1, .inr (.inl oo))) :: wV M Y G0 S) s.heap := hP
  have hK : va_K (dC, dI) classes ((kL, .long) :: tV M) s := hK
  have hEw : ∀ (H : Heap) (locs : List Loc), va_S A s.heap H locs → ∀ U : State, U.heap = H → s.WarmedH U.vm → E A U := fun H locs hS U hU hW => X.kept A s U H locs hE hS hU hW
  have hl := lv_entry ([.ref M.o_Vt, .int p0, .int p1, .ref ou]) (n := 5) (Nat.le_of_ble_eq_true rfl)
  rw [lg_entry_eq]
  generalize (lg_sl ([.ref M.o_Vt, .int p0, .int p1, .ref ou]) ++ List.replicate (5 - (lg_sl ([.ref M.o_Vt, .int p0, .int p1, .ref ou])).length) Slot.unset).toArray = ls at hl ⊢
  have hl : lv_has ls 5 [(0, .ref M.o_Vt), (1, .int p0), (2, .int p1), (3, .ref ou)] := hl
  refine lv_aload_n hx hb d_La_content_0 rfl (lv_at hl 3 rfl) ?_
  refine lv_iconst (v := 0) hx hb d_La_content_1 (by decide) ?_
  refine lv_aload_n hx hb d_La_content_2 rfl (lv_at hl 0 rfl) ?_
  refine lv_iload_n hx hb d_La_content_3 rfl (lv_at hl 1 rfl) ?_
  refine lv_iload_n hx hb d_La_content_4 rfl (lv_at hl 2 rfl) ?_
  have hPc := hP.sub (ws' := wV M Y G0 S) [1, 2, 3, 4, 5, 6, 7, 8, 9, 10, 11, 12, 13, 14, 15, 16, 17, 18, 19, 20, 21, 22, 23, 24, 25, 26, 27, 28, 29, 30, 31, 32, 33, 34, 35, 36, 37, 38, 39, 40, 41, 42, 43, 44, 45] rfl
  have hDc := hD.sub (ws' := wV M Y G0 S) [1, 2, 3, 4, 5, 6, 7, 8, 9, 10, 11, 12, 13, 14, 15, 16, 17, 18, 19, 20, 21, 22, 23, 24, 25, 26, 27, 28, 29, 30, 31, 32, 33, 34, 35, 36, 37, 38, 39, 40, 41, 42, 43, 44, 45] (by decide) rfl
  have hKc := hK.sub (tys' := tV M) [1, 2, 3] rfl
  have hFc := va_free (wc := wV M Y G0 S) hD hS hA [1, 2, 3, 4, 5, 6, 7, 8, 9, 10, 11, 12, 13, 14, 15, 16, 17, 18, 19, 20, 21, 22, 23, 24, 25, 26, 27, 28, 29, 30, 31, 32, 33, 34, 35, 36, 37, 38, 39, 40, 41, 42, 43, 44, 45] rfl
  refine va_calli (va_runV (As := [.int p0, .int p1]) (rest := [.int 0, .ref ou]) ⟨hx, hb, hml, hown, hts⟩ (l_Vt_content l dC dI X _ h) (cwV 2 hts (gwV good_Lq (u_Lq_La _ k_La_38) (u_Lq_Vt _ k_Vt_148) (u_Lq_Vt _ k_Vt_149) (u_Lq_Vt _ k_Vt_0) (wcs (u_Lq_Vt _ k_Vt_150) u_Lq_Vq)) rfl rfl rfl (by decide +kernel) ⟨Nat.le_of_ble_eq_true rfl, Nat.le_of_ble_eq_true rfl⟩) (pv_ofE (X.same _) (fun U z1 z2 => X.mono _ _ U hFc (hEw _ _ hS U z1 z2)) hPc hKc hDc (va_recv hKc hPc (ci := 11) (q0 := 0) rfl rfl)) rfl rfl hl.1 rfl (lv_room (Nat.le_of_ble_eq_true rfl)) d_La_content_5 ⟨Nat.le_of_eq (Nat.zero_add _), Nat.le_of_eq (Nat.zero_add _)⟩) hS (fun q _ h => hFc q h) hFc (fun r_ Y1 t H locs ht hvm hw hB hz1 hk1 hS => ?_)
  rw [hw]
  obtain ⟨hP1, -, hD1⟩ := hB
  rw [ht] at hP1
  obtain ⟨hP, hD⟩ := va_join (wr := [(ou, .inl (kL, 1, .inr (.inl oo)))]) (w1 := wV M Y1 G' S') hP hD [1, 2, 3, 4, 5, 6, 7, 8, 9, 10, 11, 12, 13, 14, 15, 16, 17, 18, 19, 20, 21, 22, 23, 24, 25, 26, 27, 28, 29, 30, 31, 32, 33, 34, 35, 36, 37, 38, 39, 40, 41, 42, 43, 44, 45] [0] rfl rfl (by decide) (by decide) hk1 hFc hP1 hD1
  refine W.widen (k := G'.gc - G0.gc) (n := G'.gs - G0.gs) (Nat.le_of_eq (Nat.zero_add _)) (Nat.le_of_eq (Nat.zero_add _)) ?_
  have hP : va_P (dC, dI) classes ((ou, .inl (kL, 1, .inr (.inl oo))) :: wV M Y1 G' S') H := hP
  have hD : va_D A ((ou, .inl (kL, 1, .inr (.inl oo))) :: wV M Y1 G' S') := hD
  refine lv_i2l hx hb d_La_content_8 rfl ?_
  refine va_last hx hb hK hP hD hS 0 0 rfl rfl (by unfold vp_in; decide) d_La_content_9 (fun H locs hP hD hS => ?_)
  refine lv_goto (tgt := 21) hx hb d_La_content_10 (by decide) ?_
  refine lv_iconst (v := 0) hx hb d_La_content_21 (by decide) ?_
  exact W.iret (v := 0) hx hb hr (fun t ht hW => ⟨⟨0, Y1, rfl, rfl, by rw [ht]; exact hP, va_K.moved hW.alike hK, hD⟩, hS.F ht⟩) hS.2.2 d_La_content_22
set_option maxHeartbeats 4000000 in
set_option maxRecDepth 100000 in
theorem la_content_1 (l : Launch) (hfl : l.flags = pinnedFlags ++ [noTraceFlag]) (dC : Nat → ClassId) (dI : Nat → Nat → Nat) {K : Nat} {M : CA} {E : (Nat → Prop) → State → Prop} (X : ly_X l dC dI K M E) (sz : Nat) {Y : CT} {G0 G' : CG} {S S' : CS} (ou : Nat) (kL : ClassId) (oo : Nat → Int64) {p0 : Int32} {p1 : Int32} (h : f_Vt_content K G0 S p0 p1 = some (.error 1, G', S')) : Met l y_La_content (.codeWith y_La_content b_La_content 5 (some .int) [(0, 10, 13, 19), (0, 10, 17, 25)] :: V_Lq) ({ frames := 9, cells := G'.gc - G0.gc, slots := G'.gs - G0.gs, locals := 247 }) (va_Pc [.ref M.o_Vt, .int p0, .int p1, .ref ou] (fun U => U.heap.size = sz ∧ at_ (dC, dI) (fun _ => True) ((ou, .inl (kL, 1, .inr (.inl oo))) :: wV M Y G0 S) ((kL, .long) :: tV M) U ∧ E (va_A ((ou, .inl (kL, 1, .inr (.inl oo))) :: wV M Y G0 S) sz) U)) (va_Qi (fun (r_ : Int32) (u : CT) => r_ = 1) (fun (u : CT) t => at_ (dC, dI) (va_A ((ou, .inl (kL, 1, .inr (.inl oo))) :: wV M Y G0 S) sz) ((ou, .inl (kL, 1, .inr (.inl oo))) :: wV M u G' S') ((kL, .long) :: tV M) t) (va_A ((ou, .inl (kL, 1, .inr (.inl oo))) :: wV M Y G0 S) sz)) (G'.gc - G0.gc) (G'.gs - G0.gs) (va_A ((ou, .inl (kL, 1, .inr (.inl oo))) :: wV M Y G0 S) sz) := by
  refine MetW.ofW (handlers := [(0, 10, 13, 19), (0, 10, 17, 25)]) (cc := b_La_content) (maxL := 5) (ret := (some .int)) (by decide) rfl ?_
  intro p e s m args below meth c s₁ B hml htab hv
  obtain ⟨rfl, hsz, ⟨hP, hK, hD0⟩, hE⟩ := hv
  have hx := B.exec
  have hb := B.bytes
  have hr := B.returns
  have hlocks := B.notSynchronized
  have hts0 := atoms_spec (ws := .codeWith y_La_content b_La_content 5 (some .int) [(0, 10, 13, 19), (0, 10, 17, 25)] :: V_Lq) B.pre
  have hts : ∀ w ∈ V_Lq, w.before ([.ref M.o_Vt, .int p0, .int p1, .ref ou] : List Value).toArray s = true := fun w h => hts0 w (List.mem_cons_of_mem _ h)
  have hown : s.vm.findClass R_La = some m.cls := findClass_of_methodNamed B.named
  subst hsz
  have hD := hD0.self (sz := s.heap.size)
  generalize hAe : va_A ((ou, .inl (kL, 1, .inr (.inl oo))) :: wV M Y G0 S) s.heap.size = A at hD hE ⊢
  have hA : ∀ q : Nat, s.heap.size ≤ q → A q := fun q h => by rw [← hAe]; exact Or.inr h
  have hS : va_S A s.heap s.heap [] := va_S.rf
  have hP : va_P (dC, dI) classes ((ou, .inl (kL, 1, .inr (.inl oo))) :: wV M Y G0 S) s.heap := hP
  have hK : va_K (dC, dI) classes ((kL, .long) :: tV M) s := hK
  have hEw : ∀ (H : Heap) (locs : List Loc), va_S A s.heap H locs → ∀ U : State, U.heap = H → s.WarmedH U.vm → E A U := fun H locs hS U hU hW => X.kept A s U H locs hE hS hU hW
  have hl := lv_entry ([.ref M.o_Vt, .int p0, .int p1, .ref ou]) (n := 5) (Nat.le_of_ble_eq_true rfl)
  rw [lg_entry_eq]
  generalize (lg_sl ([.ref M.o_Vt, .int p0, .int p1, .ref ou]) ++ List.replicate (5 - (lg_sl ([.ref M.o_Vt, .int p0, .int p1, .ref ou])).length) Slot.unset).toArray = ls at hl ⊢
  have hl : lv_has ls 5 [(0, .ref M.o_Vt), (1, .int p0), (2, .int p1), (3, .ref ou)] := hl
  refine lv_aload_n hx hb d_La_content_0 rfl (lv_at hl 3 rfl) ?_
  refine lv_iconst (v := 0) hx hb d_La_content_1 (by decide) ?_
  refine lv_aload_n hx hb d_La_content_2 rfl (lv_at hl 0 rfl) ?_
  refine lv_iload_n hx hb d_La_content_3 rfl (lv_at hl 1 rfl) ?_
  refine lv_iload_n hx hb d_La_content_4 rfl (lv_at hl 2 rfl) ?_
  have hPc := hP.sub (ws' := wV M Y G0 S) [1, 2, 3, 4, 5, 6, 7, 8, 9, 10, 11, 12, 13, 14, 15, 16, 17, 18, 19, 20, 21, 22, 23, 24, 25, 26, 27, 28, 29, 30, 31, 32, 33, 34, 35, 36, 37, 38, 39, 40, 41, 42, 43, 44, 45] rfl
  have hDc := hD.sub (ws' := wV M Y G0 S) [1, 2, 3, 4, 5, 6, 7, 8, 9, 10, 11, 12, 13, 14, 15, 16, 17, 18, 19, 20, 21, 22, 23, 24, 25, 26, 27, 28, 29, 30, 31, 32, 33, 34, 35, 36, 37, 38, 39, 40, 41, 42, 43, 44, 45] (by decide) rfl
  have hKc := hK.sub (tys' := tV M) [1, 2, 3] rfl
  have hFc := va_free (wc := wV M Y G0 S) hD hS hA [1, 2, 3, 4, 5, 6, 7, 8, 9, 10, 11, 12, 13, 14, 15, 16, 17, 18, 19, 20, 21, 22, 23, 24, 25, 26, 27, 28, 29, 30, 31, 32, 33, 34, 35, 36, 37, 38, 39, 40, 41, 42, 43, 44, 45] rfl
  obtain ⟨k0, hk0, -⟩ := classAt_of (hts _ (u_Lq_Vt _ k_Vt_115))
  refine x_catV (n := 2) (As := [.int p0, .int p1]) (rest := [.int 0, .ref ou]) (b := M.o_Vt) (st0 := [.int p1, .int p0, .ref M.o_Vt, .int 0, .ref ou]) ⟨hx, hb, hml, hown, hts⟩ (lt_Vt_content_1 l hfl dC dI X _ h) (cwV 2 hts (gwV good_Lq (u_Lq_La _ k_La_38) (u_Lq_Vt _ k_Vt_148) (u_Lq_Vt _ k_Vt_149) (u_Lq_Vt _ k_Vt_0) (wcs (u_Lq_Vt _ k_Vt_150) u_Lq_Vq)) rfl rfl rfl (by decide +kernel) ⟨Nat.le_of_ble_eq_true rfl, Nat.le_of_ble_eq_true rfl⟩) (pv_ofE (X.same _) (fun U z1 z2 => X.mono _ _ U hFc (hEw _ _ hS U z1 z2)) hPc hKc hDc (va_recv hKc hPc (ci := 11) (q0 := 0) rfl rfl)) rfl hl.1 rfl (Nat.le_of_ble_eq_true rfl) d_La_content_5 ⟨Nat.le_of_eq (Nat.zero_add _), Nat.le_of_eq (Nat.zero_add _)⟩ (E0 := "java/lang/IllegalStateException") (fun E st t z => z.1) ⟨k0, hk0⟩ (x := ⟨0, 10, 13, 19⟩) (pre := []) (nm := "java/lang/IllegalStateException") (cn := k0) htab (fun k1 z9 z hz => absurd hz List.not_mem_nil) rfl (by decide) (hts _ (u_Lq_La _ k_La_24)) hk0 (fun k1 z9 => by rw [hk0] at z9; cases z9; exact x_refl _ _) (fun qx st t L z1 z2 z3 z4 z5 => ?_)
  have hS := x_catS hS z1 z3.2.1 hFc z5
  obtain ⟨Y1, hP1, -, hD1⟩ := z3.2.2
  obtain ⟨hP, hD⟩ := va_join (wr := [(ou, .inl (kL, 1, .inr (.inl oo)))]) (w1 := wV M Y1 G' S') hP hD [1, 2, 3, 4, 5, 6, 7, 8, 9, 10, 11, 12, 13, 14, 15, 16, 17, 18, 19, 20, 21, 22, 23, 24, 25, 26, 27, 28, 29, 30, 31, 32, 33, 34, 35, 36, 37, 38, 39, 40, 41, 42, 43, 44, 45] [0] rfl rfl (by decide) (by decide) (fun q a b => by have z := z3.2.1.2 q (by rw [z1]; exact a) b; rw [z1] at z; exact z) hFc hP1 hD1
  have hP : va_P (dC, dI) classes ((ou, .inl (kL, 1, .inr (.inl oo))) :: wV M Y1 G' S') t.heap := hP
  have hD : va_D A ((ou, .inl (kL, 1, .inr (.inl oo))) :: wV M Y1 G' S') := hD
  generalize t.heap = H at hP hS ⊢
  show W _ _ _ _ _ _ _ _ _ _ _ _ _ _ _ (F0 m 13 ls [.ref qx])
  refine W.widen (k := G'.gc - G0.gc) (n := G'.gs - G0.gs) (Nat.le_of_eq (Nat.zero_add _)) (Nat.le_of_eq (Nat.zero_add _)) ?_
  refine lv_astore (lv' := [(4, .ref qx), (0, .ref M.o_Vt), (1, .int p0), (2, .int p1), (3, .ref ou)]) hx hb d_La_content_13 hl (by decide) rfl (fun ls hl => ?_)
  refine lv_iconst (v := 1) hx hb d_La_content_15 (by decide) ?_
  exact W.iret (v := 1) hx hb hr (fun t ht hW => ⟨⟨1, Y1, rfl, rfl, by rw [ht]; exact hP, va_K.moved hW.alike hK, hD⟩, hS.F ht⟩) hS.2.2 d_La_content_16
set_option maxHeartbeats 4000000 in
set_option maxRecDepth 100000 in
theorem la_content_2 (l : Launch) (hfl : l.flags = pinnedFlags ++ [noTraceFlag]) (dC : Nat → ClassId) (dI : Nat → Nat → Nat) {K : Nat} {M : CA} {E : (Nat → Prop) → State → Prop} (X : ly_X l dC dI K M E) (Xm : lz_miss E) (sz : Nat) {Y : CT} {G0 G' : CG} {S S' : CS} (ou : Nat) (kL : ClassId) (oo : Nat → Int64) {p0 : Int32} {p1 : Int32} (h : f_Vt_content K G0 S p0 p1 = some (.error 2, G', S')) : Met l y_La_content (.codeWith y_La_content b_La_content 5 (some .int) [(0, 10, 13, 19), (0, 10, 17, 25)] :: V_Lq) ({ frames := 9, cells := G'.gc - G0.gc, slots := G'.gs - G0.gs, locals := 247 }) (va_Pc [.ref M.o_Vt, .int p0, .int p1, .ref ou] (fun U => U.heap.size = sz ∧ at_ (dC, dI) (fun _ => True) ((ou, .inl (kL, 1, .inr (.inl oo))) :: wV M Y G0 S) ((kL, .long) :: tV M) U ∧ E (va_A ((ou, .inl (kL, 1, .inr (.inl oo))) :: wV M Y G0 S) sz) U)) (va_Qi (fun (r_ : Int32) (u : CT) => r_ = 2) (fun (u : CT) t => at_ (dC, dI) (va_A ((ou, .inl (kL, 1, .inr (.inl oo))) :: wV M Y G0 S) sz) ((ou, .inl (kL, 1, .inr (.inl oo))) :: wV M u G' S') ((kL, .long) :: tV M) t) (va_A ((ou, .inl (kL, 1, .inr (.inl oo))) :: wV M Y G0 S) sz)) (G'.gc - G0.gc) (G'.gs - G0.gs) (va_A ((ou, .inl (kL, 1, .inr (.inl oo))) :: wV M Y G0 S) sz) := by
  refine MetW.ofW (handlers := [(0, 10, 13, 19), (0, 10, 17, 25)]) (cc := b_La_content) (maxL := 5) (ret := (some .int)) (by decide) rfl ?_
  intro p e s m args below meth c s₁ B hml htab hv
  obtain ⟨rfl, hsz, ⟨hP, hK, hD0⟩, hE⟩ := hv
  have hx := B.exec
  have hb := B.bytes
  have hr := B.returns
  have hlocks := B.notSynchronized
  have hts0 := atoms_spec (ws := .codeWith y_La_content b_La_content 5 (some .int) [(0, 10, 13, 19), (0, 10, 17, 25)] :: V_Lq) B.pre
  have hts : ∀ w ∈ V_Lq, w.before ([.ref M.o_Vt, .int p0, .int p1, .ref ou] : List Value).toArray s = true := fun w h => hts0 w (List.mem_cons_of_mem _ h)
  have hown : s.vm.findClass R_La = some m.cls := findClass_of_methodNamed B.named
  subst hsz
  have hD := hD0.self (sz := s.heap.size)
  generalize hAe : va_A ((ou, .inl (kL, 1, .inr (.inl oo))) :: wV M Y G0 S) s.heap.size = A at hD hE ⊢
  have hA : ∀ q : Nat, s.heap.size ≤ q → A q := fun q h => by rw [← hAe]; exact Or.inr h
  have hS : va_S A s.heap s.heap [] := va_S.rf
  have hP : va_P (dC, dI) classes ((ou, .inl (kL, 1, .inr (.inl oo))) :: wV M Y G0 S) s.heap := hP
  have hK : va_K (dC, dI) classes ((kL, .long) :: tV M) s := hK
  have hEw : ∀ (H : Heap) (locs : List Loc), va_S A s.heap H locs → ∀ U : State, U.heap = H → s.WarmedH U.vm → E A U := fun H locs hS U hU hW => X.kept A s U H locs hE hS hU hW
  have hl := lv_entry ([.ref M.o_Vt, .int p0, .int p1, .ref ou]) (n := 5) (Nat.le_of_ble_eq_true rfl)
  rw [lg_entry_eq]
  generalize (lg_sl ([.ref M.o_Vt, .int p0, .int p1, .ref ou]) ++ List.replicate (5 - (lg_sl ([.ref M.o_Vt, .int p0, .int p1, .ref ou])).length) Slot.unset).toArray = ls at hl ⊢
  have hl : lv_has ls 5 [(0, .ref M.o_Vt), (1, .int p0), (2, .int p1), (3, .ref ou)] := hl
  refine lv_aload_n hx hb d_La_content_0 rfl (lv_at hl 3 rfl) ?_
  refine lv_iconst (v := 0) hx hb d_La_content_1 (by decide) ?_
  refine lv_aload_n hx hb d_La_content_2 rfl (lv_at hl 0 rfl) ?_
  refine lv_iload_n hx hb d_La_content_3 rfl (lv_at hl 1 rfl) ?_
  refine lv_iload_n hx hb d_La_content_4 rfl (lv_at hl 2 rfl) ?_
  have hPc := hP.sub (ws' := wV M Y G0 S) [1, 2, 3, 4, 5, 6, 7, 8, 9, 10, 11, 12, 13, 14, 15, 16, 17, 18, 19, 20, 21, 22, 23, 24, 25, 26, 27, 28, 29, 30, 31, 32, 33, 34, 35, 36, 37, 38, 39, 40, 41, 42, 43, 44, 45] rfl
  have hDc := hD.sub (ws' := wV M Y G0 S) [1, 2, 3, 4, 5, 6, 7, 8, 9, 10, 11, 12, 13, 14, 15, 16, 17, 18, 19, 20, 21, 22, 23, 24, 25, 26, 27, 28, 29, 30, 31, 32, 33, 34, 35, 36, 37, 38, 39, 40, 41, 42, 43, 44, 45] (by decide) rfl
  have hKc := hK.sub (tys' := tV M) [1, 2, 3] rfl
  have hFc := va_free (wc := wV M Y G0 S) hD hS hA [1, 2, 3, 4, 5, 6, 7, 8, 9, 10, 11, 12, 13, 14, 15, 16, 17, 18, 19, 20, 21, 22, 23, 24, 25, 26, 27, 28, 29, 30, 31, 32, 33, 34, 35, 36, 37, 38, 39, 40, 41, 42, 43, 44, 45] rfl
  obtain ⟨k0, hk0, -⟩ := classAt_of (hts _ (u_Lq_Vt _ k_Vt_126))
  obtain ⟨j0, hj0, -⟩ := classAt_of (hts _ (u_Lq_Vt _ k_Vt_115))
  have hmiss : ∀ k1, s.vm.findClass "java/lang/IndexOutOfBoundsException" = some k1 → ∀ z ∈ ([⟨0, 10, 13, 19⟩] : List ExceptionTableEntry), x_miss R_La ([.ref M.o_Vt, .int p0, .int p1, .ref ou] : List Value).toArray s k1 5 z := by
    intro k1 z9 z hz
    simp only [List.mem_cons, List.not_mem_nil, or_false] at hz
    subst hz
    exact ⟨by decide, by decide, "java/lang/IllegalStateException", j0, hts _ (u_Lq_La _ k_La_24), hj0, Xm A s hE "java/lang/IndexOutOfBoundsException" "java/lang/IllegalStateException" (by decide) k1 j0 z9 hj0⟩
  refine x_catV (n := 2) (As := [.int p0, .int p1]) (rest := [.int 0, .ref ou]) (b := M.o_Vt) (st0 := [.int p1, .int p0, .ref M.o_Vt, .int 0, .ref ou]) ⟨hx, hb, hml, hown, hts⟩ (lt_Vt_content_2 l hfl dC dI X _ h) (cwV 2 hts (gwV good_Lq (u_Lq_La _ k_La_38) (u_Lq_Vt _ k_Vt_148) (u_Lq_Vt _ k_Vt_149) (u_Lq_Vt _ k_Vt_0) (wcs (u_Lq_Vt _ k_Vt_150) u_Lq_Vq)) rfl rfl rfl (by decide +kernel) ⟨Nat.le_of_ble_eq_true rfl, Nat.le_of_ble_eq_true rfl⟩) (pv_ofE (X.same _) (fun U z1 z2 => X.mono _ _ U hFc (hEw _ _ hS U z1 z2)) hPc hKc hDc (va_recv hKc hPc (ci := 11) (q0 := 0) rfl rfl)) rfl hl.1 rfl (Nat.le_of_ble_eq_true rfl) d_La_content_5 ⟨Nat.le_of_eq (Nat.zero_add _), Nat.le_of_eq (Nat.zero_add _)⟩ (E0 := "java/lang/IndexOutOfBoundsException") (fun E st t z => z.1) ⟨k0, hk0⟩ (x := ⟨0, 10, 17, 25⟩) (pre := [⟨0, 10, 13, 19⟩]) (nm := "java/lang/IndexOutOfBoundsException") (cn := k0) htab hmiss rfl (by decide) (hts _ (u_Lq_La _ k_La_29)) hk0 (fun k1 z9 => by rw [hk0] at z9; cases z9; exact x_refl _ _) (fun qx st t L z1 z2 z3 z4 z5 => ?_)
  have hS := x_catS hS z1 z3.2.1 hFc z5
  obtain ⟨Y1, hP1, -, hD1⟩ := z3.2.2
  obtain ⟨hP, hD⟩ := va_join (wr := [(ou, .inl (kL, 1, .inr (.inl oo)))]) (w1 := wV M Y1 G' S') hP hD [1, 2, 3, 4, 5, 6, 7, 8, 9, 10, 11, 12, 13, 14, 15, 16, 17, 18, 19, 20, 21, 22, 23, 24, 25, 26, 27, 28, 29, 30, 31, 32, 33, 34, 35, 36, 37, 38, 39, 40, 41, 42, 43, 44, 45] [0] rfl rfl (by decide) (by decide) (fun q a b => by have z := z3.2.1.2 q (by rw [z1]; exact a) b; rw [z1] at z; exact z) hFc hP1 hD1
  have hP : va_P (dC, dI) classes ((ou, .inl (kL, 1, .inr (.inl oo))) :: wV M Y1 G' S') t.heap := hP
  have hD : va_D A ((ou, .inl (kL, 1, .inr (.inl oo))) :: wV M Y1 G' S') := hD
  generalize t.heap = H at hP hS ⊢
  show W _ _ _ _ _ _ _ _ _ _ _ _ _ _ _ (F0 m 17 ls [.ref qx])
  refine W.widen (k := G'.gc - G0.gc) (n := G'.gs - G0.gs) (Nat.le_of_eq (Nat.zero_add _)) (Nat.le_of_eq (Nat.zero_add _)) ?_
  refine lv_astore (lv' := [(4, .ref qx), (0, .ref M.o_Vt), (1, .int p0), (2, .int p1), (3, .ref ou)]) hx hb d_La_content_17 hl (by decide) rfl (fun ls hl => ?_)
  refine lv_iconst (v := 2) hx hb d_La_content_19 (by decide) ?_
  exact W.iret (v := 2) hx hb hr (fun t ht hW => ⟨⟨2, Y1, rfl, rfl, by rw [ht]; exact hP, va_K.moved hW.alike hK, hD⟩, hS.F ht⟩) hS.2.2 d_La_content_20
set_option maxHeartbeats 4000000 in
set_option maxRecDepth 100000 in
theorem la_enter_ok (l : Launch) (hfl : l.flags = pinnedFlags ++ [noTraceFlag]) (dC : Nat → ClassId) (dI : Nat → Nat → Nat) {K : Nat} {M : CA} {E : (Nat → Prop) → State → Prop} (X : ly_X l dC dI K M E) (sz : Nat) {Y : CT} {G0 G' : CG} {S S' : CS} (ou : Nat) (kL : ClassId) (oo : Nat → Int64) {p0 : Int32} {r : Int32} (h : f_Vt_enter K G0 S p0 = some (.ok r, G', S')) : Met l y_La_enter (.codeWith y_La_enter b_La_enter 4 (some .int) [(0, 9, 12, 19), (0, 9, 15, 25), (0, 9, 18, 13)] :: V_Lq) ({ frames := 9, cells := G'.gc - G0.gc, slots := G'.gs - G0.gs, locals := 247 }) (va_Pc [.ref M.o_Vt, .int p0, .ref ou] (fun U => U.heap.size = sz ∧ at_ (dC, dI) (fun _ => True) ((ou, .inl (kL, 1, .inr (.inl oo))) :: wV M Y G0 S) ((kL, .long) :: tV M) U ∧ E (va_A ((ou, .inl (kL, 1, .inr (.inl oo))) :: wV M Y G0 S) sz) U)) (va_Qi (fun (r_ : Int32) (u : CT) => r_ = 0) (fun (u : CT) t => at_ (dC, dI) (va_A ((ou, .inl (kL, 1, .inr (.inl oo))) :: wV M Y G0 S) sz) ((ou, .inl (kL, 1, .inr (.inl (vp_updL oo (0 : Int32).toNatClampNeg r.toInt64)))) :: wV M u G' S') ((kL, .long) :: tV M) t) (va_A ((ou, .inl (kL, 1, .inr (.inl oo))) :: wV M Y G0 S) sz)) (G'.gc - G0.gc) (G'.gs - G0.gs) (va_A ((ou, .inl (kL, 1, .inr (.inl oo))) :: wV M Y G0 S) sz) := by
  refine MetW.ofW (handlers := [(0, 9, 12, 19), (0, 9, 15, 25), (0, 9, 18, 13)]) (cc := b_La_enter) (maxL := 4) (ret := (some .int)) (by decide) rfl ?_
  intro p e s m args below meth c s₁ B hml htab hv
  obtain ⟨rfl, hsz, ⟨hP, hK, hD0⟩, hE⟩ := hv
  have hx := B.exec
  have hb := B.bytes
  have hr := B.returns
  have hlocks := B.notSynchronized
  have hts0 := atoms_spec (ws := .codeWith y_La_enter b_La_enter 4 (some .int) [(0, 9, 12, 19), (0, 9, 15, 25), (0, 9, 18, 13)] :: V_Lq) B.pre
  have hts : ∀ w ∈ V_Lq, w.before ([.ref M.o_Vt, .int p0, .ref ou] : List Value).toArray s = true := fun w h => hts0 w (List.mem_cons_of_mem _ h)
  have hown : s.vm.findClass R_La = some m.cls := findClass_of_methodNamed B.named
  subst hsz
  have hD := hD0.self (sz := s.heap.size)
  generalize hAe : va_A ((ou, .inl (kL, 1, .inr (.inl oo))) :: wV M Y G0 S) s.heap.size = A at hD hE ⊢
  have hA : ∀ q : Nat, s.heap.size ≤ q → A q := fun q h => by rw [← hAe]; exact Or.inr h
  have hS : va_S A s.heap s.heap [] := va_S.rf
  have hP : va_P (dC, dI) classes ((ou, .inl (kL, 1, .inr (.inl oo))) :: wV M Y G0 S) s.heap := hP
  have hK : va_K (dC, dI) classes ((kL, .long) :: tV M) s := hK
  have hEw : ∀ (H : Heap) (locs : List Loc), va_S A s.heap H locs → ∀ U : State, U.heap = H → s.WarmedH U.vm → E A U := fun H locs hS U hU hW => X.kept A s U H locs hE hS hU hW
  have hl := lv_entry ([.ref M.o_Vt, .int p0, .ref ou]) (n := 4) (Nat.le_of_ble_eq_true rfl)
  rw [lg_entry_eq]
  generalize (lg_sl ([.ref M.o_Vt, .int p0, .ref ou]) ++ List.replicate (4 - (lg_sl ([.ref M.o_Vt, .int p0, .ref ou])).length) Slot.unset).toArray = ls at hl ⊢
  have hl : lv_has ls 4 [(0, .ref M.o_Vt), (1, .int p0), (2, .ref ou)] := hl
  refine lv_aload_n hx hb d_La_enter_0 rfl (lv_at hl 2 rfl) ?_
  refine lv_iconst (v := 0) hx hb d_La_enter_1 (by decide) ?_
  refine lv_aload_n hx hb d_La_enter_2 rfl (lv_at hl 0 rfl) ?_
  refine lv_iload_n hx hb d_La_enter_3 rfl (lv_at hl 1 rfl) ?_
  have hPc := hP.sub (ws' := wV M Y G0 S) [1, 2, 3, 4, 5, 6, 7, 8, 9, 10, 11, 12, 13, 14, 15, 16, 17, 18, 19, 20, 21, 22, 23, 24, 25, 26, 27, 28, 29, 30, 31, 32, 33, 34, 35, 36, 37, 38, 39, 40, 41, 42, 43, 44, 45] rfl
  have hDc := hD.sub (ws' := wV M Y G0 S) [1, 2, 3, 4, 5, 6, 7, 8, 9, 10, 11, 12, 13, 14, 15, 16, 17, 18, 19, 20, 21, 22, 23, 24, 25, 26, 27, 28, 29, 30, 31, 32, 33, 34, 35, 36, 37, 38, 39, 40, 41, 42, 43, 44, 45] (by decide) rfl
  have hKc := hK.sub (tys' := tV M) [1, 2, 3] rfl
  have hFc := va_free (wc := wV M Y G0 S) hD hS hA [1, 2, 3, 4, 5, 6, 7, 8, 9, 10, 11, 12, 13, 14, 15, 16, 17, 18, 19, 20, 21, 22, 23, 24, 25, 26, 27, 28, 29, 30, 31, 32, 33, 34, 35, 36, 37, 38, 39, 40, 41, 42, 43, 44, 45] rfl
  refine va_calli (va_runV (As := [.int p0]) (rest := [.int 0, .ref ou]) ⟨hx, hb, hml, hown, hts⟩ (l_Vt_enter l dC dI X _ h) (cwV 1 hts (gwV good_Lq (u_Lq_La _ k_La_42) (u_Lq_Vt _ k_Vt_153) (u_Lq_Vt _ k_Vt_154) (u_Lq_Vt _ k_Vt_0) (wcs (u_Lq_Vt _ k_Vt_155) u_Lq_Vq)) rfl rfl rfl (by decide +kernel) ⟨Nat.le_of_ble_eq_true rfl, Nat.le_of_ble_eq_true rfl⟩) (pv_ofE (X.same _) (fun U z1 z2 => X.mono _ _ U hFc (hEw _ _ hS U z1 z2)) hPc hKc hDc (va_recv hKc hPc (ci := 11) (q0 := 0) rfl rfl)) rfl rfl hl.1 rfl (lv_room (Nat.le_of_ble_eq_true rfl)) d_La_enter_4 ⟨Nat.le_of_eq (Nat.zero_add _), Nat.le_of_eq (Nat.zero_add _)⟩) hS (fun q _ h => hFc q h) hFc (fun r_ Y1 t H locs ht hvm hw hB hz1 hk1 hS => ?_)
  rw [hw]
  obtain ⟨hP1, -, hD1⟩ := hB
  rw [ht] at hP1
  obtain ⟨hP, hD⟩ := va_join (wr := [(ou, .inl (kL, 1, .inr (.inl oo)))]) (w1 := wV M Y1 G' S') hP hD [1, 2, 3, 4, 5, 6, 7, 8, 9, 10, 11, 12, 13, 14, 15, 16, 17, 18, 19, 20, 21, 22, 23, 24, 25, 26, 27, 28, 29, 30, 31, 32, 33, 34, 35, 36, 37, 38, 39, 40, 41, 42, 43, 44, 45] [0] rfl rfl (by decide) (by decide) hk1 hFc hP1 hD1
  refine W.widen (k := G'.gc - G0.gc) (n := G'.gs - G0.gs) (Nat.le_of_eq (Nat.zero_add _)) (Nat.le_of_eq (Nat.zero_add _)) ?_
  have hP : va_P (dC, dI) classes ((ou, .inl (kL, 1, .inr (.inl oo))) :: wV M Y1 G' S') H := hP
  have hD : va_D A ((ou, .inl (kL, 1, .inr (.inl oo))) :: wV M Y1 G' S') := hD
  refine lv_i2l hx hb d_La_enter_7 rfl ?_
  refine va_last hx hb hK hP hD hS 0 0 rfl rfl (by unfold vp_in; decide) d_La_enter_8 (fun H locs hP hD hS => ?_)
  refine lv_goto (tgt := 21) hx hb d_La_enter_9 (by decide) ?_
  refine lv_iconst (v := 0) hx hb d_La_enter_21 (by decide) ?_
  exact W.iret (v := 0) hx hb hr (fun t ht hW => ⟨⟨0, Y1, rfl, rfl, by rw [ht]; exact hP, va_K.moved hW.alike hK, hD⟩, hS.F ht⟩) hS.2.2 d_La_enter_22
set_option maxHeartbeats 4000000 in
set_option maxRecDepth 100000 in
theorem la_enter_0 (l : Launch) (hfl : l.flags = pinnedFlags ++ [noTraceFlag]) (dC : Nat → ClassId) (dI : Nat → Nat → Nat) {K : Nat} {M : CA} {E : (Nat → Prop) → State → Prop} (X : ly_X l dC dI K M E) (Xm : lz_miss E) (sz : Nat) {Y : CT} {G0 G' : CG} {S S' : CS} (ou : Nat) (kL : ClassId) (oo : Nat → Int64) {p0 : Int32} (h : f_Vt_enter K G0 S p0 = some (.error 0, G', S')) : Met l y_La_enter (.codeWith y_La_enter b_La_enter 4 (some .int) [(0, 9, 12, 19), (0, 9, 15, 25), (0, 9, 18, 13)] :: V_Lq) ({ frames := 9, cells := G'.gc - G0.gc, slots := G'.gs - G0.gs, locals := 247 }) (va_Pc [.ref M.o_Vt, .int p0, .ref ou] (fun U => U.heap.size = sz ∧ at_ (dC, dI) (fun _ => True) ((ou, .inl (kL, 1, .inr (.inl oo))) :: wV M Y G0 S) ((kL, .long) :: tV M) U ∧ E (va_A ((ou, .inl (kL, 1, .inr (.inl oo))) :: wV M Y G0 S) sz) U)) (va_Qi (fun (r_ : Int32) (u : CT) => r_ = 3) (fun (u : CT) t => at_ (dC, dI) (va_A ((ou, .inl (kL, 1, .inr (.inl oo))) :: wV M Y G0 S) sz) ((ou, .inl (kL, 1, .inr (.inl oo))) :: wV M u G' S') ((kL, .long) :: tV M) t) (va_A ((ou, .inl (kL, 1, .inr (.inl oo))) :: wV M Y G0 S) sz)) (G'.gc - G0.gc) (G'.gs - G0.gs) (va_A ((ou, .inl (kL, 1, .inr (.inl oo))) :: wV M Y G0 S) sz) := by
  refine MetW.ofW (handlers := [(0, 9, 12, 19), (0, 9, 15, 25), (0, 9, 18, 13)]) (cc := b_La_enter) (maxL := 4) (ret := (some .int)) (by decide) rfl ?_
  intro p e s m args below meth c s₁ B hml htab hv
  obtain ⟨rfl, hsz, ⟨hP, hK, hD0⟩, hE⟩ := hv
  have hx := B.exec
  have hb := B.bytes
  have hr := B.returns
  have hlocks := B.notSynchronized
  have hts0 := atoms_spec (ws := .codeWith y_La_enter b_La_enter 4 (some .int) [(0, 9, 12, 19), (0, 9, 15, 25), (0, 9, 18, 13)] :: V_Lq) B.pre
  have hts : ∀ w ∈ V_Lq, w.before ([.ref M.o_Vt, .int p0, .ref ou] : List Value).toArray s = true := fun w h => hts0 w (List.mem_cons_of_mem _ h)
  have hown : s.vm.findClass R_La = some m.cls := findClass_of_methodNamed B.named
  subst hsz
  have hD := hD0.self (sz := s.heap.size)
  generalize hAe : va_A ((ou, .inl (kL, 1, .inr (.inl oo))) :: wV M Y G0 S) s.heap.size = A at hD hE ⊢
  have hA : ∀ q : Nat, s.heap.size ≤ q → A q := fun q h => by rw [← hAe]; exact Or.inr h
  have hS : va_S A s.heap s.heap [] := va_S.rf
  have hP : va_P (dC, dI) classes ((ou, .inl (kL, 1, .inr (.inl oo))) :: wV M Y G0 S) s.heap := hP
  have hK : va_K (dC, dI) classes ((kL, .long) :: tV M) s := hK
  have hEw : ∀ (H : Heap) (locs : List Loc), va_S A s.heap H locs → ∀ U : State, U.heap = H → s.WarmedH U.vm → E A U := fun H locs hS U hU hW => X.kept A s U H locs hE hS hU hW
  have hl := lv_entry ([.ref M.o_Vt, .int p0, .ref ou]) (n := 4) (Nat.le_of_ble_eq_true rfl)
  rw [lg_entry_eq]
  generalize (lg_sl ([.ref M.o_Vt, .int p0, .ref ou]) ++ List.replicate (4 - (lg_sl ([.ref M.o_Vt, .int p0, .ref ou])).length) Slot.unset).toArray = ls at hl ⊢
  have hl : lv_has ls 4 [(0, .ref M.o_Vt), (1, .int p0), (2, .ref ou)] := hl
  refine lv_aload_n hx hb d_La_enter_0 rfl (lv_at hl 2 rfl) ?_
  refine lv_iconst (v := 0) hx hb d_La_enter_1 (by decide) ?_
  refine lv_aload_n hx hb d_La_enter_2 rfl (lv_at hl 0 rfl) ?_
  refine lv_iload_n hx hb d_La_enter_3 rfl (lv_at hl 1 rfl) ?_
  have hPc := hP.sub (ws' := wV M Y G0 S) [1, 2, 3, 4, 5, 6, 7, 8, 9, 10, 11, 12, 13, 14, 15, 16, 17, 18, 19, 20, 21, 22, 23, 24, 25, 26, 27, 28, 29, 30, 31, 32, 33, 34, 35, 36, 37, 38, 39, 40, 41, 42, 43, 44, 45] rfl
  have hDc := hD.sub (ws' := wV M Y G0 S) [1, 2, 3, 4, 5, 6, 7, 8, 9, 10, 11, 12, 13, 14, 15, 16, 17, 18, 19, 20, 21, 22, 23, 24, 25, 26, 27, 28, 29, 30, 31, 32, 33, 34, 35, 36, 37, 38, 39, 40, 41, 42, 43, 44, 45] (by decide) rfl
  have hKc := hK.sub (tys' := tV M) [1, 2, 3] rfl
  have hFc := va_free (wc := wV M Y G0 S) hD hS hA [1, 2, 3, 4, 5, 6, 7, 8, 9, 10, 11, 12, 13, 14, 15, 16, 17, 18, 19, 20, 21, 22, 23, 24, 25, 26, 27, 28, 29, 30, 31, 32, 33, 34, 35, 36, 37, 38, 39, 40, 41, 42, 43, 44, 45] rfl
  obtain ⟨k0, hk0, -⟩ := classAt_of (hts _ (u_Lq_Vt _ k_Vt_101))
  obtain ⟨j0, hj0, -⟩ := classAt_of (hts _ (u_Lq_Vt _ k_Vt_115))
  obtain ⟨j1, hj1, -⟩ := classAt_of (hts _ (u_Lq_Vt _ k_Vt_126))
  have hmiss : ∀ k1, s.vm.findClass "java/lang/IllegalArgumentException" = some k1 → ∀ z ∈ ([⟨0, 9, 12, 19⟩, ⟨0, 9, 15, 25⟩] : List ExceptionTableEntry), x_miss R_La ([.ref M.o_Vt, .int p0, .ref ou] : List Value).toArray s k1 4 z := by
    intro k1 z9 z hz
    simp only [List.mem_cons, List.not_mem_nil, or_false] at hz
    rcases hz with rfl | rfl
    · exact ⟨by decide, by decide, "java/lang/IllegalStateException", j0, hts _ (u_Lq_La _ k_La_24), hj0, Xm A s hE "java/lang/IllegalArgumentException" "java/lang/IllegalStateException" (by decide) k1 j0 z9 hj0⟩
    · exact ⟨by decide, by decide, "java/lang/IndexOutOfBoundsException", j1, hts _ (u_Lq_La _ k_La_29), hj1, Xm A s hE "java/lang/IllegalArgumentException" "java/lang/IndexOutOfBoundsException" (by decide) k1 j1 z9 hj1⟩
  refine x_catV (n := 1) (As := [.int p0]) (rest := [.int 0, .ref ou]) (b := M.o_Vt) (st0 := [.int p0, .ref M.o_Vt, .int 0, .ref ou]) ⟨hx, hb, hml, hown, hts⟩ (lt_Vt_enter_0 l hfl dC dI X _ h) (cwV 1 hts (gwV good_Lq (u_Lq_La _ k_La_42) (u_Lq_Vt _ k_Vt_153) (u_Lq_Vt _ k_Vt_154) (u_Lq_Vt _ k_Vt_0) (wcs (u_Lq_Vt _ k_Vt_155) u_Lq_Vq)) rfl rfl rfl (by decide +kernel) ⟨Nat.le_of_ble_eq_true rfl, Nat.le_of_ble_eq_true rfl⟩) (pv_ofE (X.same _) (fun U z1 z2 => X.mono _ _ U hFc (hEw _ _ hS U z1 z2)) hPc hKc hDc (va_recv hKc hPc (ci := 11) (q0 := 0) rfl rfl)) rfl hl.1 rfl (Nat.le_of_ble_eq_true rfl) d_La_enter_4 ⟨Nat.le_of_eq (Nat.zero_add _), Nat.le_of_eq (Nat.zero_add _)⟩ (E0 := "java/lang/IllegalArgumentException") (fun E st t z => z.1) ⟨k0, hk0⟩ (x := ⟨0, 9, 18, 13⟩) (pre := [⟨0, 9, 12, 19⟩, ⟨0, 9, 15, 25⟩]) (nm := "java/lang/IllegalArgumentException") (cn := k0) htab hmiss rfl (by decide) (hts _ (u_Lq_La _ k_La_19)) hk0 (fun k1 z9 => by rw [hk0] at z9; cases z9; exact x_refl _ _) (fun qx st t L z1 z2 z3 z4 z5 => ?_)
  have hS := x_catS hS z1 z3.2.1 hFc z5
  obtain ⟨Y1, hP1, -, hD1⟩ := z3.2.2
  obtain ⟨hP, hD⟩ := va_join (wr := [(ou, .inl (kL, 1, .inr (.inl oo)))]) (w1 := wV M Y1 G' S') hP hD [1, 2, 3, 4, 5, 6, 7, 8, 9, 10, 11, 12, 13, 14, 15, 16, 17, 18, 19, 20, 21, 22, 23, 24, 25, 26, 27, 28, 29, 30, 31, 32, 33, 34, 35, 36, 37, 38, 39, 40, 41, 42, 43, 44, 45] [0] rfl rfl (by decide) (by decide) (fun q a b => by have z := z3.2.1.2 q (by rw [z1]; exact a) b; rw [z1] at z; exact z) hFc hP1 hD1
  have hP : va_P (dC, dI) classes ((ou, .inl (kL, 1, .inr (.inl oo))) :: wV M Y1 G' S') t.heap := hP
  have hD : va_D A ((ou, .inl (kL, 1, .inr (.inl oo))) :: wV M Y1 G' S') := hD
  generalize t.heap = H at hP hS ⊢
  show W _ _ _ _ _ _ _ _ _ _ _ _ _ _ _ (F0 m 18 ls [.ref qx])
  refine W.widen (k := G'.gc - G0.gc) (n := G'.gs - G0.gs) (Nat.le_of_eq (Nat.zero_add _)) (Nat.le_of_eq (Nat.zero_add _)) ?_
  refine lv_astore_n (lv' := [(3, .ref qx), (0, .ref M.o_Vt), (1, .int p0), (2, .ref ou)]) hx hb d_La_enter_18 rfl hl (by decide) rfl (fun ls hl => ?_)
  refine lv_iconst (v := 3) hx hb d_La_enter_19 (by decide) ?_
  exact W.iret (v := 3) hx hb hr (fun t ht hW => ⟨⟨3, Y1, rfl, rfl, by rw [ht]; exact hP, va_K.moved hW.alike hK, hD⟩, hS.F ht⟩) hS.2.2 d_La_enter_20
set_option maxHeartbeats 4000000 in
set_option maxRecDepth 100000 in
theorem la_enter_1 (l : Launch) (hfl : l.flags = pinnedFlags ++ [noTraceFlag]) (dC : Nat → ClassId) (dI : Nat → Nat → Nat) {K : Nat} {M : CA} {E : (Nat → Prop) → State → Prop} (X : ly_X l dC dI K M E) (sz : Nat) {Y : CT} {G0 G' : CG} {S S' : CS} (ou : Nat) (kL : ClassId) (oo : Nat → Int64) {p0 : Int32} (h : f_Vt_enter K G0 S p0 = some (.error 1, G', S')) : Met l y_La_enter (.codeWith y_La_enter b_La_enter 4 (some .int) [(0, 9, 12, 19), (0, 9, 15, 25), (0, 9, 18, 13)] :: V_Lq) ({ frames := 9, cells := G'.gc - G0.gc, slots := G'.gs - G0.gs, locals := 247 }) (va_Pc [.ref M.o_Vt, .int p0, .ref ou] (fun U => U.heap.size = sz ∧ at_ (dC, dI) (fun _ => True) ((ou, .inl (kL, 1, .inr (.inl oo))) :: wV M Y G0 S) ((kL, .long) :: tV M) U ∧ E (va_A ((ou, .inl (kL, 1, .inr (.inl oo))) :: wV M Y G0 S) sz) U)) (va_Qi (fun (r_ : Int32) (u : CT) => r_ = 1) (fun (u : CT) t => at_ (dC, dI) (va_A ((ou, .inl (kL, 1, .inr (.inl oo))) :: wV M Y G0 S) sz) ((ou, .inl (kL, 1, .inr (.inl oo))) :: wV M u G' S') ((kL, .long) :: tV M) t) (va_A ((ou, .inl (kL, 1, .inr (.inl oo))) :: wV M Y G0 S) sz)) (G'.gc - G0.gc) (G'.gs - G0.gs) (va_A ((ou, .inl (kL, 1, .inr (.inl oo))) :: wV M Y G0 S) sz) := by
  refine MetW.ofW (handlers := [(0, 9, 12, 19), (0, 9, 15, 25), (0, 9, 18, 13)]) (cc := b_La_enter) (maxL := 4) (ret := (some .int)) (by decide) rfl ?_
  intro p e s m args below meth c s₁ B hml htab hv
  obtain ⟨rfl, hsz, ⟨hP, hK, hD0⟩, hE⟩ := hv
  have hx := B.exec
  have hb := B.bytes
  have hr := B.returns
  have hlocks := B.notSynchronized
  have hts0 := atoms_spec (ws := .codeWith y_La_enter b_La_enter 4 (some .int) [(0, 9, 12, 19), (0, 9, 15, 25), (0, 9, 18, 13)] :: V_Lq) B.pre
  have hts : ∀ w ∈ V_Lq, w.before ([.ref M.o_Vt, .int p0, .ref ou] : List Value).toArray s = true := fun w h => hts0 w (List.mem_cons_of_mem _ h)
  have hown : s.vm.findClass R_La = some m.cls := findClass_of_methodNamed B.named
  subst hsz
  have hD := hD0.self (sz := s.heap.size)
  generalize hAe : va_A ((ou, .inl (kL, 1, .inr (.inl oo))) :: wV M Y G0 S) s.heap.size = A at hD hE ⊢
  have hA : ∀ q : Nat, s.heap.size ≤ q → A q := fun q h => by rw [← hAe]; exact Or.inr h
  have hS : va_S A s.heap s.heap [] := va_S.rf
  have hP : va_P (dC, dI) classes ((ou, .inl (kL, 1, .inr (.inl oo))) :: wV M Y G0 S) s.heap := hP
  have hK : va_K (dC, dI) classes ((kL, .long) :: tV M) s := hK
  have hEw : ∀ (H : Heap) (locs : List Loc), va_S A s.heap H locs → ∀ U : State, U.heap = H → s.WarmedH U.vm → E A U := fun H locs hS U hU hW => X.kept A s U H locs hE hS hU hW
  have hl := lv_entry ([.ref M.o_Vt, .int p0, .ref ou]) (n := 4) (Nat.le_of_ble_eq_true rfl)
  rw [lg_entry_eq]
  generalize (lg_sl ([.ref M.o_Vt, .int p0, .ref ou]) ++ List.replicate (4 - (lg_sl ([.ref M.o_Vt, .int p0, .ref ou])).length) Slot.unset).toArray = ls at hl ⊢
  have hl : lv_has ls 4 [(0, .ref M.o_Vt), (1, .int p0), (2, .ref ou)] := hl
  refine lv_aload_n hx hb d_La_enter_0 rfl (lv_at hl 2 rfl) ?_
  refine lv_iconst (v := 0) hx hb d_La_enter_1 (by decide) ?_
  refine lv_aload_n hx hb d_La_enter_2 rfl (lv_at hl 0 rfl) ?_
  refine lv_iload_n hx hb d_La_enter_3 rfl (lv_at hl 1 rfl) ?_
  have hPc := hP.sub (ws' := wV M Y G0 S) [1, 2, 3, 4, 5, 6, 7, 8, 9, 10, 11, 12, 13, 14, 15, 16, 17, 18, 19, 20, 21, 22, 23, 24, 25, 26, 27, 28, 29, 30, 31, 32, 33, 34, 35, 36, 37, 38, 39, 40, 41, 42, 43, 44, 45] rfl
  have hDc := hD.sub (ws' := wV M Y G0 S) [1, 2, 3, 4, 5, 6, 7, 8, 9, 10, 11, 12, 13, 14, 15, 16, 17, 18, 19, 20, 21, 22, 23, 24, 25, 26, 27, 28, 29, 30, 31, 32, 33, 34, 35, 36, 37, 38, 39, 40, 41, 42, 43, 44, 45] (by decide) rfl
  have hKc := hK.sub (tys' := tV M) [1, 2, 3] rfl
  have hFc := va_free (wc := wV M Y G0 S) hD hS hA [1, 2, 3, 4, 5, 6, 7, 8, 9, 10, 11, 12, 13, 14, 15, 16, 17, 18, 19, 20, 21, 22, 23, 24, 25, 26, 27, 28, 29, 30, 31, 32, 33, 34, 35, 36, 37, 38, 39, 40, 41, 42, 43, 44, 45] rfl
  obtain ⟨k0, hk0, -⟩ := classAt_of (hts _ (u_Lq_Vt _ k_Vt_115))
  refine x_catV (n := 1) (As := [.int p0]) (rest := [.int 0, .ref ou]) (b := M.o_Vt) (st0 := [.int p0, .ref M.o_Vt, .int 0, .ref ou]) ⟨hx, hb, hml, hown, hts⟩ (lt_Vt_enter_1 l hfl dC dI X _ h) (cwV 1 hts (gwV good_Lq (u_Lq_La _ k_La_42) (u_Lq_Vt _ k_Vt_153) (u_Lq_Vt _ k_Vt_154) (u_Lq_Vt _ k_Vt_0) (wcs (u_Lq_Vt _ k_Vt_155) u_Lq_Vq)) rfl rfl rfl (by decide +kernel) ⟨Nat.le_of_ble_eq_true rfl, Nat.le_of_ble_eq_true rfl⟩) (pv_ofE (X.same _) (fun U z1 z2 => X.mono _ _ U hFc (hEw _ _ hS U z1 z2)) hPc hKc hDc (va_recv hKc hPc (ci := 11) (q0 := 0) rfl rfl)) rfl hl.1 rfl (Nat.le_of_ble_eq_true rfl) d_La_enter_4 ⟨Nat.le_of_eq (Nat.zero_add _), Nat.le_of_eq (Nat.zero_add _)⟩ (E0 := "java/lang/IllegalStateException") (fun E st t z => z.1) ⟨k0, hk0⟩ (x := ⟨0, 9, 12, 19⟩) (pre := []) (nm := "java/lang/IllegalStateException") (cn := k0) htab (fun k1 z9 z hz => absurd hz List.not_mem_nil) rfl (by decide) (hts _ (u_Lq_La _ k_La_24)) hk0 (fun k1 z9 => by rw [hk0] at z9; cases z9; exact x_refl _ _) (fun qx st t L z1 z2 z3 z4 z5 => ?_)
  have hS := x_catS hS z1 z3.2.1 hFc z5
  obtain ⟨Y1, hP1, -, hD1⟩ := z3.2.2
  obtain ⟨hP, hD⟩ := va_join (wr := [(ou, .inl (kL, 1, .inr (.inl oo)))]) (w1 := wV M Y1 G' S') hP hD [1, 2, 3, 4, 5, 6, 7, 8, 9, 10, 11, 12, 13, 14, 15, 16, 17, 18, 19, 20, 21, 22, 23, 24, 25, 26, 27, 28, 29, 30, 31, 32, 33, 34, 35, 36, 37, 38, 39, 40, 41, 42, 43, 44, 45] [0] rfl rfl (by decide) (by decide) (fun q a b => by have z := z3.2.1.2 q (by rw [z1]; exact a) b; rw [z1] at z; exact z) hFc hP1 hD1
  have hP : va_P (dC, dI) classes ((ou, .inl (kL, 1, .inr (.inl oo))) :: wV M Y1 G' S') t.heap := hP
  have hD : va_D A ((ou, .inl (kL, 1, .inr (.inl oo))) :: wV M Y1 G' S') := hD
  generalize t.heap = H at hP hS ⊢
  show W _ _ _ _ _ _ _ _ _ _ _ _ _ _ _ (F0 m 12 ls [.ref qx])
  refine W.widen (k := G'.gc - G0.gc) (n := G'.gs - G0.gs) (Nat.le_of_eq (Nat.zero_add _)) (Nat.le_of_eq (Nat.zero_add _)) ?_
  refine lv_astore_n (lv' := [(3, .ref qx), (0, .ref M.o_Vt), (1, .int p0), (2, .ref ou)]) hx hb d_La_enter_12 rfl hl (by decide) rfl (fun ls hl => ?_)
  refine lv_iconst (v := 1) hx hb d_La_enter_13 (by decide) ?_
  exact W.iret (v := 1) hx hb hr (fun t ht hW => ⟨⟨1, Y1, rfl, rfl, by rw [ht]; exact hP, va_K.moved hW.alike hK, hD⟩, hS.F ht⟩) hS.2.2 d_La_enter_14
set_option maxHeartbeats 4000000 in
set_option maxRecDepth 100000 in
theorem la_enter_2 (l : Launch) (hfl : l.flags = pinnedFlags ++ [noTraceFlag]) (dC : Nat → ClassId) (dI : Nat → Nat → Nat) {K : Nat} {M : CA} {E : (Nat → Prop) → State → Prop} (X : ly_X l dC dI K M E) (Xm : lz_miss E) (sz : Nat) {Y : CT} {G0 G' : CG} {S S' : CS} (ou : Nat) (kL : ClassId) (oo : Nat → Int64) {p0 : Int32} (h : f_Vt_enter K G0 S p0 = some (.error 2, G', S')) : Met l y_La_enter (.codeWith y_La_enter b_La_enter 4 (some .int) [(0, 9, 12, 19), (0, 9, 15, 25), (0, 9, 18, 13)] :: V_Lq) ({ frames := 9, cells := G'.gc - G0.gc, slots := G'.gs - G0.gs, locals := 247 }) (va_Pc [.ref M.o_Vt, .int p0, .ref ou] (fun U => U.heap.size = sz ∧ at_ (dC, dI) (fun _ => True) ((ou, .inl (kL, 1, .inr (.inl oo))) :: wV M Y G0 S) ((kL, .long) :: tV M) U ∧ E (va_A ((ou, .inl (kL, 1, .inr (.inl oo))) :: wV M Y G0 S) sz) U)) (va_Qi (fun (r_ : Int32) (u : CT) => r_ = 2) (fun (u : CT) t => at_ (dC, dI) (va_A ((ou, .inl (kL, 1, .inr (.inl oo))) :: wV M Y G0 S) sz) ((ou, .inl (kL, 1, .inr (.inl oo))) :: wV M u G' S') ((kL, .long) :: tV M) t) (va_A ((ou, .inl (kL, 1, .inr (.inl oo))) :: wV M Y G0 S) sz)) (G'.gc - G0.gc) (G'.gs - G0.gs) (va_A ((ou, .inl (kL, 1, .inr (.inl oo))) :: wV M Y G0 S) sz) := by
  refine MetW.ofW (handlers := [(0, 9, 12, 19), (0, 9, 15, 25), (0, 9, 18, 13)]) (cc := b_La_enter) (maxL := 4) (ret := (some .int)) (by decide) rfl ?_
  intro p e s m args below meth c s₁ B hml htab hv
  obtain ⟨rfl, hsz, ⟨hP, hK, hD0⟩, hE⟩ := hv
  have hx := B.exec
  have hb := B.bytes
  have hr := B.returns
  have hlocks := B.notSynchronized
  have hts0 := atoms_spec (ws := .codeWith y_La_enter b_La_enter 4 (some .int) [(0, 9, 12, 19), (0, 9, 15, 25), (0, 9, 18, 13)] :: V_Lq) B.pre
  have hts : ∀ w ∈ V_Lq, w.before ([.ref M.o_Vt, .int p0, .ref ou] : List Value).toArray s = true := fun w h => hts0 w (List.mem_cons_of_mem _ h)
  have hown : s.vm.findClass R_La = some m.cls := findClass_of_methodNamed B.named
  subst hsz
  have hD := hD0.self (sz := s.heap.size)
  generalize hAe : va_A ((ou, .inl (kL, 1, .inr (.inl oo))) :: wV M Y G0 S) s.heap.size = A at hD hE ⊢
  have hA : ∀ q : Nat, s.heap.size ≤ q → A q := fun q h => by rw [← hAe]; exact Or.inr h
  have hS : va_S A s.heap s.heap [] := va_S.rf
  have hP : va_P (dC, dI) classes ((ou, .inl (kL, 1, .inr (.inl oo))) :: wV M Y G0 S) s.heap := hP
  have hK : va_K (dC, dI) classes ((kL, .long) :: tV M) s := hK
  have hEw : ∀ (H : Heap) (locs : List Loc), va_S A s.heap H locs → ∀ U : State, U.heap = H → s.WarmedH U.vm → E A U := fun H locs hS U hU hW => X.kept A s U H locs hE hS hU hW
  have hl := lv_entry ([.ref M.o_Vt, .int p0, .ref ou]) (n := 4) (Nat.le_of_ble_eq_true rfl)
  rw [lg_entry_eq]
  generalize (lg_sl ([.ref M.o_Vt, .int p0, .ref ou]) ++ List.replicate (4 - (lg_sl ([.ref M.o_Vt, .int p0, .ref ou])).length) Slot.unset).toArray = ls at hl ⊢
  have hl : lv_has ls 4 [(0, .ref M.o_Vt), (1, .int p0), (2, .ref ou)] := hl
  refine lv_aload_n hx hb d_La_enter_0 rfl (lv_at hl 2 rfl) ?_
  refine lv_iconst (v := 0) hx hb d_La_enter_1 (by decide) ?_
  refine lv_aload_n hx hb d_La_enter_2 rfl (lv_at hl 0 rfl) ?_
  refine lv_iload_n hx hb d_La_enter_3 rfl (lv_at hl 1 rfl) ?_
  have hPc := hP.sub (ws' := wV M Y G0 S) [1, 2, 3, 4, 5, 6, 7, 8, 9, 10, 11, 12, 13, 14, 15, 16, 17, 18, 19, 20, 21, 22, 23, 24, 25, 26, 27, 28, 29, 30, 31, 32, 33, 34, 35, 36, 37, 38, 39, 40, 41, 42, 43, 44, 45] rfl
  have hDc := hD.sub (ws' := wV M Y G0 S) [1, 2, 3, 4, 5, 6, 7, 8, 9, 10, 11, 12, 13, 14, 15, 16, 17, 18, 19, 20, 21, 22, 23, 24, 25, 26, 27, 28, 29, 30, 31, 32, 33, 34, 35, 36, 37, 38, 39, 40, 41, 42, 43, 44, 45] (by decide) rfl
  have hKc := hK.sub (tys' := tV M) [1, 2, 3] rfl
  have hFc := va_free (wc := wV M Y G0 S) hD hS hA [1, 2, 3, 4, 5, 6, 7, 8, 9, 10, 11, 12, 13, 14, 15, 16, 17, 18, 19, 20, 21, 22, 23, 24, 25, 26, 27, 28, 29, 30, 31, 32, 33, 34, 35, 36, 37, 38, 39, 40, 41, 42, 43, 44, 45] rfl
  obtain ⟨k0, hk0, -⟩ := classAt_of (hts _ (u_Lq_Vt _ k_Vt_126))
  obtain ⟨j0, hj0, -⟩ := classAt_of (hts _ (u_Lq_Vt _ k_Vt_115))
  have hmiss : ∀ k1, s.vm.findClass "java/lang/IndexOutOfBoundsException" = some k1 → ∀ z ∈ ([⟨0, 9, 12, 19⟩] : List ExceptionTableEntry), x_miss R_La ([.ref M.o_Vt, .int p0, .ref ou] : List Value).toArray s k1 4 z := by
    intro k1 z9 z hz
    simp only [List.mem_cons, List.not_mem_nil, or_false] at hz
    subst hz
    exact ⟨by decide, by decide, "java/lang/IllegalStateException", j0, hts _ (u_Lq_La _ k_La_24), hj0, Xm A s hE "java/lang/IndexOutOfBoundsException" "java/lang/IllegalStateException" (by decide) k1 j0 z9 hj0⟩
  refine x_catV (n := 1) (As := [.int p0]) (rest := [.int 0, .ref ou]) (b := M.o_Vt) (st0 := [.int p0, .ref M.o_Vt, .int 0, .ref ou]) ⟨hx, hb, hml, hown, hts⟩ (lt_Vt_enter_2 l hfl dC dI X _ h) (cwV 1 hts (gwV good_Lq (u_Lq_La _ k_La_42) (u_Lq_Vt _ k_Vt_153) (u_Lq_Vt _ k_Vt_154) (u_Lq_Vt _ k_Vt_0) (wcs (u_Lq_Vt _ k_Vt_155) u_Lq_Vq)) rfl rfl rfl (by decide +kernel) ⟨Nat.le_of_ble_eq_true rfl, Nat.le_of_ble_eq_true rfl⟩) (pv_ofE (X.same _) (fun U z1 z2 => X.mono _ _ U hFc (hEw _ _ hS U z1 z2)) hPc hKc hDc (va_recv hKc hPc (ci := 11) (q0 := 0) rfl rfl)) rfl hl.1 rfl (Nat.le_of_ble_eq_true rfl) d_La_enter_4 ⟨Nat.le_of_eq (Nat.zero_add _), Nat.le_of_eq (Nat.zero_add _)⟩ (E0 := "java/lang/IndexOutOfBoundsException") (fun E st t z => z.1) ⟨k0, hk0⟩ (x := ⟨0, 9, 15, 25⟩) (pre := [⟨0, 9, 12, 19⟩]) (nm := "java/lang/IndexOutOfBoundsException") (cn := k0) htab hmiss rfl (by decide) (hts _ (u_Lq_La _ k_La_29)) hk0 (fun k1 z9 => by rw [hk0] at z9; cases z9; exact x_refl _ _) (fun qx st t L z1 z2 z3 z4 z5 => ?_)
  have hS := x_catS hS z1 z3.2.1 hFc z5
  obtain ⟨Y1, hP1, -, hD1⟩ := z3.2.2
  obtain ⟨hP, hD⟩ := va_join (wr := [(ou, .inl (kL, 1, .inr (.inl oo)))]) (w1 := wV M Y1 G' S') hP hD [1, 2, 3, 4, 5, 6, 7, 8, 9, 10, 11, 12, 13, 14, 15, 16, 17, 18, 19, 20, 21, 22, 23, 24, 25, 26, 27, 28, 29, 30, 31, 32, 33, 34, 35, 36, 37, 38, 39, 40, 41, 42, 43, 44, 45] [0] rfl rfl (by decide) (by decide) (fun q a b => by have z := z3.2.1.2 q (by rw [z1]; exact a) b; rw [z1] at z; exact z) hFc hP1 hD1
  have hP : va_P (dC, dI) classes ((ou, .inl (kL, 1, .inr (.inl oo))) :: wV M Y1 G' S') t.heap := hP
  have hD : va_D A ((ou, .inl (kL, 1, .inr (.inl oo))) :: wV M Y1 G' S') := hD
  generalize t.heap = H at hP hS ⊢
  show W _ _ _ _ _ _ _ _ _ _ _ _ _ _ _ (F0 m 15 ls [.ref qx])
  refine W.widen (k := G'.gc - G0.gc) (n := G'.gs - G0.gs) (Nat.le_of_eq (Nat.zero_add _)) (Nat.le_of_eq (Nat.zero_add _)) ?_
  refine lv_astore_n (lv' := [(3, .ref qx), (0, .ref M.o_Vt), (1, .int p0), (2, .ref ou)]) hx hb d_La_enter_15 rfl hl (by decide) rfl (fun ls hl => ?_)
  refine lv_iconst (v := 2) hx hb d_La_enter_16 (by decide) ?_
  exact W.iret (v := 2) hx hb hr (fun t ht hW => ⟨⟨2, Y1, rfl, rfl, by rw [ht]; exact hP, va_K.moved hW.alike hK, hD⟩, hS.F ht⟩) hS.2.2 d_La_enter_17
set_option maxHeartbeats 4000000 in
set_option maxRecDepth 100000 in
theorem la_up_ok (l : Launch) (hfl : l.flags = pinnedFlags ++ [noTraceFlag]) (dC : Nat → ClassId) (dI : Nat → Nat → Nat) {K : Nat} {M : CA} {E : (Nat → Prop) → State → Prop} (X : ly_X l dC dI K M E) (sz : Nat) {Y : CT} {G0 G' : CG} {S S' : CS} (ou : Nat) (kL : ClassId) (oo : Nat → Int64) {r : Int32} (h : f_Vt_up K G0 S = some (.ok r, G', S')) : Met l y_La_up (.codeWith y_La_up b_La_up 3 (some .int) [(0, 15, 18, 19)] :: V_Lq) ({ frames := 9, cells := G'.gc - G0.gc, slots := G'.gs - G0.gs, locals := 245 }) (va_Pc [.ref M.o_Vt, .ref ou] (fun U => U.heap.size = sz ∧ at_ (dC, dI) (fun _ => True) ((ou, .inl (kL, 1, .inr (.inl oo))) :: wV M Y G0 S) ((kL, .long) :: tV M) U ∧ E (va_A ((ou, .inl (kL, 1, .inr (.inl oo))) :: wV M Y G0 S) sz) U)) (va_Qi (fun (r_ : Int32) (u : CT) => r_ = 0) (fun (u : CT) t => at_ (dC, dI) (va_A ((ou, .inl (kL, 1, .inr (.inl oo))) :: wV M Y G0 S) sz) ((ou, .inl (kL, 1, .inr (.inl (vp_updL oo (0 : Int32).toNatClampNeg (if r = 0 then 0 else 1))))) :: wV M u G' S') ((kL, .long) :: tV M) t) (va_A ((ou, .inl (kL, 1, .inr (.inl oo))) :: wV M Y G0 S) sz)) (G'.gc - G0.gc) (G'.gs - G0.gs) (va_A ((ou, .inl (kL, 1, .inr (.inl oo))) :: wV M Y G0 S) sz) := by
  refine MetW.ofW (handlers := [(0, 15, 18, 19)]) (cc := b_La_up) (maxL := 3) (ret := (some .int)) (by decide) rfl ?_
  intro p e s m args below meth c s₁ B hml htab hv
  obtain ⟨rfl, hsz, ⟨hP, hK, hD0⟩, hE⟩ := hv
  have hx := B.exec
  have hb := B.bytes
  have hr := B.returns
  have hlocks := B.notSynchronized
  have hts0 := atoms_spec (ws := .codeWith y_La_up b_La_up 3 (some .int) [(0, 15, 18, 19)] :: V_Lq) B.pre
  have hts : ∀ w ∈ V_Lq, w.before ([.ref M.o_Vt, .ref ou] : List Value).toArray s = true := fun w h => hts0 w (List.mem_cons_of_mem _ h)
  have hown : s.vm.findClass R_La = some m.cls := findClass_of_methodNamed B.named
  subst hsz
  have hD := hD0.self (sz := s.heap.size)
  generalize hAe : va_A ((ou, .inl (kL, 1, .inr (.inl oo))) :: wV M Y G0 S) s.heap.size = A at hD hE ⊢
  have hA : ∀ q : Nat, s.heap.size ≤ q → A q := fun q h => by rw [← hAe]; exact Or.inr h
  have hS : va_S A s.heap s.heap [] := va_S.rf
  have hP : va_P (dC, dI) classes ((ou, .inl (kL, 1, .inr (.inl oo))) :: wV M Y G0 S) s.heap := hP
  have hK : va_K (dC, dI) classes ((kL, .long) :: tV M) s := hK
  have hEw : ∀ (H : Heap) (locs : List Loc), va_S A s.heap H locs → ∀ U : State, U.heap = H → s.WarmedH U.vm → E A U := fun H locs hS U hU hW => X.kept A s U H locs hE hS hU hW
  have hl := lv_entry ([.ref M.o_Vt, .ref ou]) (n := 3) (Nat.le_of_ble_eq_true rfl)
  rw [lg_entry_eq]
  generalize (lg_sl ([.ref M.o_Vt, .ref ou]) ++ List.replicate (3 - (lg_sl ([.ref M.o_Vt, .ref ou])).length) Slot.unset).toArray = ls at hl ⊢
  have hl : lv_has ls 3 [(0, .ref M.o_Vt), (1, .ref ou)] := hl
  refine lv_aload_n hx hb d_La_up_0 rfl (lv_at hl 1 rfl) ?_
  refine lv_iconst (v := 0) hx hb d_La_up_1 (by decide) ?_
  refine lv_aload_n hx hb d_La_up_2 rfl (lv_at hl 0 rfl) ?_
  have hPc := hP.sub (ws' := wV M Y G0 S) [1, 2, 3, 4, 5, 6, 7, 8, 9, 10, 11, 12, 13, 14, 15, 16, 17, 18, 19, 20, 21, 22, 23, 24, 25, 26, 27, 28, 29, 30, 31, 32, 33, 34, 35, 36, 37, 38, 39, 40, 41, 42, 43, 44, 45] rfl
  have hDc := hD.sub (ws' := wV M Y G0 S) [1, 2, 3, 4, 5, 6, 7, 8, 9, 10, 11, 12, 13, 14, 15, 16, 17, 18, 19, 20, 21, 22, 23, 24, 25, 26, 27, 28, 29, 30, 31, 32, 33, 34, 35, 36, 37, 38, 39, 40, 41, 42, 43, 44, 45] (by decide) rfl
  have hKc := hK.sub (tys' := tV M) [1, 2, 3] rfl
  have hFc := va_free (wc := wV M Y G0 S) hD hS hA [1, 2, 3, 4, 5, 6, 7, 8, 9, 10, 11, 12, 13, 14, 15, 16, 17, 18, 19, 20, 21, 22, 23, 24, 25, 26, 27, 28, 29, 30, 31, 32, 33, 34, 35, 36, 37, 38, 39, 40, 41, 42, 43, 44, 45] rfl
  refine va_calli (va_runV (As := []) (rest := [.int 0, .ref ou]) ⟨hx, hb, hml, hown, hts⟩ (l_Vt_up l dC dI X _ h) (cwV 0 hts (gwV good_Lq (u_Lq_La _ k_La_46) (u_Lq_Vt _ k_Vt_158) (u_Lq_Vt _ k_Vt_159) (u_Lq_Vt _ k_Vt_0) (wcs (u_Lq_Vt _ k_Vt_160) u_Lq_Vq)) rfl rfl rfl (by decide +kernel) ⟨Nat.le_of_ble_eq_true rfl, Nat.le_of_ble_eq_true rfl⟩) (pv_ofE (X.same _) (fun U z1 z2 => X.mono _ _ U hFc (hEw _ _ hS U z1 z2)) hPc hKc hDc (va_recv hKc hPc (ci := 11) (q0 := 0) rfl rfl)) rfl rfl hl.1 rfl (lv_room (Nat.le_of_ble_eq_true rfl)) d_La_up_3 ⟨Nat.le_of_eq (Nat.zero_add _), Nat.le_of_eq (Nat.zero_add _)⟩) hS (fun q _ h => hFc q h) hFc (fun r_ Y1 t H locs ht hvm hw hB hz1 hk1 hS => ?_)
  rw [hw]
  obtain ⟨hP1, -, hD1⟩ := hB
  rw [ht] at hP1
  obtain ⟨hP, hD⟩ := va_join (wr := [(ou, .inl (kL, 1, .inr (.inl oo)))]) (w1 := wV M Y1 G' S') hP hD [1, 2, 3, 4, 5, 6, 7, 8, 9, 10, 11, 12, 13, 14, 15, 16, 17, 18, 19, 20, 21, 22, 23, 24, 25, 26, 27, 28, 29, 30, 31, 32, 33, 34, 35, 36, 37, 38, 39, 40, 41, 42, 43, 44, 45] [0] rfl rfl (by decide) (by decide) hk1 hFc hP1 hD1
  refine W.widen (k := G'.gc - G0.gc) (n := G'.gs - G0.gs) (Nat.le_of_eq (Nat.zero_add _)) (Nat.le_of_eq (Nat.zero_add _)) ?_
  have hP : va_P (dC, dI) classes ((ou, .inl (kL, 1, .inr (.inl oo))) :: wV M Y1 G' S') H := hP
  have hD : va_D A ((ou, .inl (kL, 1, .inr (.inl oo))) :: wV M Y1 G' S') := hD
  refine lv_if_eq (tgt := 13) hx hb d_La_up_6 (by decide) (fun c_1 => ?_) (fun c_1 => ?_)
  · have hc9 := c_1
    refine lv_lconst (v := 0) hx hb d_La_up_13 (by decide) ?_
    refine va_last hx hb hK hP hD hS 0 0 rfl rfl (by unfold vp_in; decide) d_La_up_14 (fun H locs hP hD hS => ?_)
    rw [show (0 : Int64) = (if r = 0 then 0 else 1) from (if_pos hc9).symm] at hP hD
    refine lv_goto (tgt := 21) hx hb d_La_up_15 (by decide) ?_
    refine lv_iconst (v := 0) hx hb d_La_up_21 (by decide) ?_
    exact W.iret (v := 0) hx hb hr (fun t ht hW => ⟨⟨0, Y1, rfl, rfl, by rw [ht]; exact hP, va_K.moved hW.alike hK, hD⟩, hS.F ht⟩) hS.2.2 d_La_up_22
  · have hc9 := c_1
    refine lv_lconst (v := 1) hx hb d_La_up_9 (by decide) ?_
    refine lv_goto (tgt := 14) hx hb d_La_up_10 (by decide) ?_
    refine va_last hx hb hK hP hD hS 0 0 rfl rfl (by unfold vp_in; decide) d_La_up_14 (fun H locs hP hD hS => ?_)
    rw [show (1 : Int64) = (if r = 0 then 0 else 1) from (if_neg hc9).symm] at hP hD
    refine lv_goto (tgt := 21) hx hb d_La_up_15 (by decide) ?_
    refine lv_iconst (v := 0) hx hb d_La_up_21 (by decide) ?_
    exact W.iret (v := 0) hx hb hr (fun t ht hW => ⟨⟨0, Y1, rfl, rfl, by rw [ht]; exact hP, va_K.moved hW.alike hK, hD⟩, hS.F ht⟩) hS.2.2 d_La_up_22
set_option maxHeartbeats 4000000 in
set_option maxRecDepth 100000 in
theorem la_up_1 (l : Launch) (hfl : l.flags = pinnedFlags ++ [noTraceFlag]) (dC : Nat → ClassId) (dI : Nat → Nat → Nat) {K : Nat} {M : CA} {E : (Nat → Prop) → State → Prop} (X : ly_X l dC dI K M E) (sz : Nat) {Y : CT} {G0 G' : CG} {S S' : CS} (ou : Nat) (kL : ClassId) (oo : Nat → Int64) (h : f_Vt_up K G0 S = some (.error 1, G', S')) : Met l y_La_up (.codeWith y_La_up b_La_up 3 (some .int) [(0, 15, 18, 19)] :: V_Lq) ({ frames := 9, cells := G'.gc - G0.gc, slots := G'.gs - G0.gs, locals := 245 }) (va_Pc [.ref M.o_Vt, .ref ou] (fun U => U.heap.size = sz ∧ at_ (dC, dI) (fun _ => True) ((ou, .inl (kL, 1, .inr (.inl oo))) :: wV M Y G0 S) ((kL, .long) :: tV M) U ∧ E (va_A ((ou, .inl (kL, 1, .inr (.inl oo))) :: wV M Y G0 S) sz) U)) (va_Qi (fun (r_ : Int32) (u : CT) => r_ = 1) (fun (u : CT) t => at_ (dC, dI) (va_A ((ou, .inl (kL, 1, .inr (.inl oo))) :: wV M Y G0 S) sz) ((ou, .inl (kL, 1, .inr (.inl oo))) :: wV M u G' S') ((kL, .long) :: tV M) t) (va_A ((ou, .inl (kL, 1, .inr (.inl oo))) :: wV M Y G0 S) sz)) (G'.gc - G0.gc) (G'.gs - G0.gs) (va_A ((ou, .inl (kL, 1, .inr (.inl oo))) :: wV M Y G0 S) sz) := by
  refine MetW.ofW (handlers := [(0, 15, 18, 19)]) (cc := b_La_up) (maxL := 3) (ret := (some .int)) (by decide) rfl ?_
  intro p e s m args below meth c s₁ B hml htab hv
  obtain ⟨rfl, hsz, ⟨hP, hK, hD0⟩, hE⟩ := hv
  have hx := B.exec
  have hb := B.bytes
  have hr := B.returns
  have hlocks := B.notSynchronized
  have hts0 := atoms_spec (ws := .codeWith y_La_up b_La_up 3 (some .int) [(0, 15, 18, 19)] :: V_Lq) B.pre
  have hts : ∀ w ∈ V_Lq, w.before ([.ref M.o_Vt, .ref ou] : List Value).toArray s = true := fun w h => hts0 w (List.mem_cons_of_mem _ h)
  have hown : s.vm.findClass R_La = some m.cls := findClass_of_methodNamed B.named
  subst hsz
  have hD := hD0.self (sz := s.heap.size)
  generalize hAe : va_A ((ou, .inl (kL, 1, .inr (.inl oo))) :: wV M Y G0 S) s.heap.size = A at hD hE ⊢
  have hA : ∀ q : Nat, s.heap.size ≤ q → A q := fun q h => by rw [← hAe]; exact Or.inr h
  have hS : va_S A s.heap s.heap [] := va_S.rf
  have hP : va_P (dC, dI) classes ((ou, .inl (kL, 1, .inr (.inl oo))) :: wV M Y G0 S) s.heap := hP
  have hK : va_K (dC, dI) classes ((kL, .long) :: tV M) s := hK
  have hEw : ∀ (H : Heap) (locs : List Loc), va_S A s.heap H locs → ∀ U : State, U.heap = H → s.WarmedH U.vm → E A U := fun H locs hS U hU hW => X.kept A s U H locs hE hS hU hW
  have hl := lv_entry ([.ref M.o_Vt, .ref ou]) (n := 3) (Nat.le_of_ble_eq_true rfl)
  rw [lg_entry_eq]
  generalize (lg_sl ([.ref M.o_Vt, .ref ou]) ++ List.replicate (3 - (lg_sl ([.ref M.o_Vt, .ref ou])).length) Slot.unset).toArray = ls at hl ⊢
  have hl : lv_has ls 3 [(0, .ref M.o_Vt), (1, .ref ou)] := hl
  refine lv_aload_n hx hb d_La_up_0 rfl (lv_at hl 1 rfl) ?_
  refine lv_iconst (v := 0) hx hb d_La_up_1 (by decide) ?_
  refine lv_aload_n hx hb d_La_up_2 rfl (lv_at hl 0 rfl) ?_
  have hPc := hP.sub (ws' := wV M Y G0 S) [1, 2, 3, 4, 5, 6, 7, 8, 9, 10, 11, 12, 13, 14, 15, 16, 17, 18, 19, 20, 21, 22, 23, 24, 25, 26, 27, 28, 29, 30, 31, 32, 33, 34, 35, 36, 37, 38, 39, 40, 41, 42, 43, 44, 45] rfl
  have hDc := hD.sub (ws' := wV M Y G0 S) [1, 2, 3, 4, 5, 6, 7, 8, 9, 10, 11, 12, 13, 14, 15, 16, 17, 18, 19, 20, 21, 22, 23, 24, 25, 26, 27, 28, 29, 30, 31, 32, 33, 34, 35, 36, 37, 38, 39, 40, 41, 42, 43, 44, 45] (by decide) rfl
  have hKc := hK.sub (tys' := tV M) [1, 2, 3] rfl
  have hFc := va_free (wc := wV M Y G0 S) hD hS hA [1, 2, 3, 4, 5, 6, 7, 8, 9, 10, 11, 12, 13, 14, 15, 16, 17, 18, 19, 20, 21, 22, 23, 24, 25, 26, 27, 28, 29, 30, 31, 32, 33, 34, 35, 36, 37, 38, 39, 40, 41, 42, 43, 44, 45] rfl
  obtain ⟨k0, hk0, -⟩ := classAt_of (hts _ (u_Lq_Vt _ k_Vt_115))
  refine x_catV (n := 0) (As := []) (rest := [.int 0, .ref ou]) (b := M.o_Vt) (st0 := [.ref M.o_Vt, .int 0, .ref ou]) ⟨hx, hb, hml, hown, hts⟩ (lt_Vt_up_1 l hfl dC dI X _ h) (cwV 0 hts (gwV good_Lq (u_Lq_La _ k_La_46) (u_Lq_Vt _ k_Vt_158) (u_Lq_Vt _ k_Vt_159) (u_Lq_Vt _ k_Vt_0) (wcs (u_Lq_Vt _ k_Vt_160) u_Lq_Vq)) rfl rfl rfl (by decide +kernel) ⟨Nat.le_of_ble_eq_true rfl, Nat.le_of_ble_eq_true rfl⟩) (pv_ofE (X.same _) (fun U z1 z2 => X.mono _ _ U hFc (hEw _ _ hS U z1 z2)) hPc hKc hDc (va_recv hKc hPc (ci := 11) (q0 := 0) rfl rfl)) rfl hl.1 rfl (Nat.le_of_ble_eq_true rfl) d_La_up_3 ⟨Nat.le_of_eq (Nat.zero_add _), Nat.le_of_eq (Nat.zero_add _)⟩ (E0 := "java/lang/IllegalStateException") (fun E st t z => z.1) ⟨k0, hk0⟩ (x := ⟨0, 15, 18, 19⟩) (pre := []) (nm := "java/lang/IllegalStateException") (cn := k0) htab (fun k1 z9 z hz => absurd hz List.not_mem_nil) rfl (by decide) (hts _ (u_Lq_La _ k_La_24)) hk0 (fun k1 z9 => by rw [hk0] at z9; cases z9; exact x_refl _ _) (fun qx st t L z1 z2 z3 z4 z5 => ?_)
  have hS := x_catS hS z1 z3.2.1 hFc z5
  obtain ⟨Y1, hP1, -, hD1⟩ := z3.2.2
  obtain ⟨hP, hD⟩ := va_join (wr := [(ou, .inl (kL, 1, .inr (.inl oo)))]) (w1 := wV M Y1 G' S') hP hD [1, 2, 3, 4, 5, 6, 7, 8, 9, 10, 11, 12, 13, 14, 15, 16, 17, 18, 19, 20, 21, 22, 23, 24, 25, 26, 27, 28, 29, 30, 31, 32, 33, 34, 35, 36, 37, 38, 39, 40, 41, 42, 43, 44, 45] [0] rfl rfl (by decide) (by decide) (fun q a b => by have z := z3.2.1.2 q (by rw [z1]; exact a) b; rw [z1] at z; exact z) hFc hP1 hD1
  have hP : va_P (dC, dI) classes ((ou, .inl (kL, 1, .inr (.inl oo))) :: wV M Y1 G' S') t.heap := hP
  have hD : va_D A ((ou, .inl (kL, 1, .inr (.inl oo))) :: wV M Y1 G' S') := hD
  generalize t.heap = H at hP hS ⊢
  show W _ _ _ _ _ _ _ _ _ _ _ _ _ _ _ (F0 m 18 ls [.ref qx])
  refine W.widen (k := G'.gc - G0.gc) (n := G'.gs - G0.gs) (Nat.le_of_eq (Nat.zero_add _)) (Nat.le_of_eq (Nat.zero_add _)) ?_
  refine lv_astore_n (lv' := [(2, .ref qx), (0, .ref M.o_Vt), (1, .ref ou)]) hx hb d_La_up_18 rfl hl (by decide) rfl (fun ls hl => ?_)
  refine lv_iconst (v := 1) hx hb d_La_up_19 (by decide) ?_
  exact W.iret (v := 1) hx hb hr (fun t ht hW => ⟨⟨1, Y1, rfl, rfl, by rw [ht]; exact hP, va_K.moved hW.alike hK, hD⟩, hS.F ht⟩) hS.2.2 d_La_up_20
set_option maxHeartbeats 4000000 in
set_option maxRecDepth 100000 in
theorem la_make_ok (l : Launch) (hfl : l.flags = pinnedFlags ++ [noTraceFlag]) (dC : Nat → ClassId) (dI : Nat → Nat → Nat) {K : Nat} {M : CA} {E : (Nat → Prop) → State → Prop} (X : ly_X l dC dI K M E) (sz : Nat) {Y : CT} {G0 G' : CG} {S S' : CS} (ou : Nat) (kL : ClassId) (oo : Nat → Int64) {p0 : Int32} {r : Int32} (h : f_Vt_make K G0 S p0 = some (.ok r, G', S')) : Met l y_La_make (.codeWith y_La_make b_La_make 4 (some .int) [(0, 9, 12, 19), (0, 9, 15, 13), (0, 9, 18, 46)] :: V_Lq) ({ frames := 9, cells := G'.gc - G0.gc, slots := G'.gs - G0.gs, locals := 246 }) (va_Pc [.ref M.o_Vt, .int p0, .ref ou] (fun U => U.heap.size = sz ∧ at_ (dC, dI) (fun _ => True) ((ou, .inl (kL, 1, .inr (.inl oo))) :: wV M Y G0 S) ((kL, .long) :: tV M) U ∧ E (va_A ((ou, .inl (kL, 1, .inr (.inl oo))) :: wV M Y G0 S) sz) U)) (va_Qi (fun (r_ : Int32) (u : CT) => r_ = 0) (fun (u : CT) t => at_ (dC, dI) (va_A ((ou, .inl (kL, 1, .inr (.inl oo))) :: wV M Y G0 S) sz) ((ou, .inl (kL, 1, .inr (.inl (vp_updL oo (0 : Int32).toNatClampNeg r.toInt64)))) :: wV M u G' S') ((kL, .long) :: tV M) t) (va_A ((ou, .inl (kL, 1, .inr (.inl oo))) :: wV M Y G0 S) sz)) (G'.gc - G0.gc) (G'.gs - G0.gs) (va_A ((ou, .inl (kL, 1, .inr (.inl oo))) :: wV M Y G0 S) sz) := by
  refine MetW.ofW (handlers := [(0, 9, 12, 19), (0, 9, 15, 13), (0, 9, 18, 46)]) (cc := b_La_make) (maxL := 4) (ret := (some .int)) (by decide) rfl ?_
  intro p e s m args below meth c s₁ B hml htab hv
  obtain ⟨rfl, hsz, ⟨hP, hK, hD0⟩, hE⟩ := hv
  have hx := B.exec
  have hb := B.bytes
  have hr := B.returns
  have hlocks := B.notSynchronized
  have hts0 := atoms_spec (ws := .codeWith y_La_make b_La_make 4 (some .int) [(0, 9, 12, 19), (0, 9, 15, 13), (0, 9, 18, 46)] :: V_Lq) B.pre
  have hts : ∀ w ∈ V_Lq, w.before ([.ref M.o_Vt, .int p0, .ref ou] : List Value).toArray s = true := fun w h => hts0 w (List.mem_cons_of_mem _ h)
  have hown : s.vm.findClass R_La = some m.cls := findClass_of_methodNamed B.named
  subst hsz
  have hD := hD0.self (sz := s.heap.size)
  generalize hAe : va_A ((ou, .inl (kL, 1, .inr (.inl oo))) :: wV M Y G0 S) s.heap.size = A at hD hE ⊢
  have hA : ∀ q : Nat, s.heap.size ≤ q → A q := fun q h => by rw [← hAe]; exact Or.inr h
  have hS : va_S A s.heap s.heap [] := va_S.rf
  have hP : va_P (dC, dI) classes ((ou, .inl (kL, 1, .inr (.inl oo))) :: wV M Y G0 S) s.heap := hP
  have hK : va_K (dC, dI) classes ((kL, .long) :: tV M) s := hK
  have hEw : ∀ (H : Heap) (locs : List Loc), va_S A s.heap H locs → ∀ U : State, U.heap = H → s.WarmedH U.vm → E A U := fun H locs hS U hU hW => X.kept A s U H locs hE hS hU hW
  have hl := lv_entry ([.ref M.o_Vt, .int p0, .ref ou]) (n := 4) (Nat.le_of_ble_eq_true rfl)
  rw [lg_entry_eq]
  generalize (lg_sl ([.ref M.o_Vt, .int p0, .ref ou]) ++ List.replicate (4 - (lg_sl ([.ref M.o_Vt, .int p0, .ref ou])).length) Slot.unset).toArray = ls at hl ⊢
  have hl : lv_has ls 4 [(0, .ref M.o_Vt), (1, .int p0), (2, .ref ou)] := hl
  refine lv_aload_n hx hb d_La_make_0 rfl (lv_at hl 2 rfl) ?_
  refine lv_iconst (v := 0) hx hb d_La_make_1 (by decide) ?_
  refine lv_aload_n hx hb d_La_make_2 rfl (lv_at hl 0 rfl) ?_
  refine lv_iload_n hx hb d_La_make_3 rfl (lv_at hl 1 rfl) ?_
  have hPc := hP.sub (ws' := wV M Y G0 S) [1, 2, 3, 4, 5, 6, 7, 8, 9, 10, 11, 12, 13, 14, 15, 16, 17, 18, 19, 20, 21, 22, 23, 24, 25, 26, 27, 28, 29, 30, 31, 32, 33, 34, 35, 36, 37, 38, 39, 40, 41, 42, 43, 44, 45] rfl
  have hDc := hD.sub (ws' := wV M Y G0 S) [1, 2, 3, 4, 5, 6, 7, 8, 9, 10, 11, 12, 13, 14, 15, 16, 17, 18, 19, 20, 21, 22, 23, 24, 25, 26, 27, 28, 29, 30, 31, 32, 33, 34, 35, 36, 37, 38, 39, 40, 41, 42, 43, 44, 45] (by decide) rfl
  have hKc := hK.sub (tys' := tV M) [1, 2, 3] rfl
  have hFc := va_free (wc := wV M Y G0 S) hD hS hA [1, 2, 3, 4, 5, 6, 7, 8, 9, 10, 11, 12, 13, 14, 15, 16, 17, 18, 19, 20, 21, 22, 23, 24, 25, 26, 27, 28, 29, 30, 31, 32, 33, 34, 35, 36, 37, 38, 39, 40, 41, 42, 43, 44, 45] rfl
  refine va_calli (va_runV (As := [.int p0]) (rest := [.int 0, .ref ou]) ⟨hx, hb, hml, hown, hts⟩ (l_Vt_make l dC dI X _ h) (cwV 1 hts (gwV good_Lq (u_Lq_La _ k_La_51) (u_Lq_Vt _ k_Vt_163) (u_Lq_Vt _ k_Vt_164) (u_Lq_Vt _ k_Vt_0) (wcs (u_Lq_Vt _ k_Vt_165) u_Lq_Vq)) rfl rfl rfl (by decide +kernel) ⟨Nat.le_of_ble_eq_true rfl, Nat.le_of_ble_eq_true rfl⟩) (pv_ofE (X.same _) (fun U z1 z2 => X.mono _ _ U hFc (hEw _ _ hS U z1 z2)) hPc hKc hDc (va_recv hKc hPc (ci := 11) (q0 := 0) rfl rfl)) rfl rfl hl.1 rfl (lv_room (Nat.le_of_ble_eq_true rfl)) d_La_make_4 ⟨Nat.le_of_eq (Nat.zero_add _), Nat.le_of_eq (Nat.zero_add _)⟩) hS (fun q _ h => hFc q h) hFc (fun r_ Y1 t H locs ht hvm hw hB hz1 hk1 hS => ?_)
  rw [hw]
  obtain ⟨hP1, -, hD1⟩ := hB
  rw [ht] at hP1
  obtain ⟨hP, hD⟩ := va_join (wr := [(ou, .inl (kL, 1, .inr (.inl oo)))]) (w1 := wV M Y1 G' S') hP hD [1, 2, 3, 4, 5, 6, 7, 8, 9, 10, 11, 12, 13, 14, 15, 16, 17, 18, 19, 20, 21, 22, 23, 24, 25, 26, 27, 28, 29, 30, 31, 32, 33, 34, 35, 36, 37, 38, 39, 40, 41, 42, 43, 44, 45] [0] rfl rfl (by decide) (by decide) hk1 hFc hP1 hD1
  refine W.widen (k := G'.gc - G0.gc) (n := G'.gs - G0.gs) (Nat.le_of_eq (Nat.zero_add _)) (Nat.le_of_eq (Nat.zero_add _)) ?_
  have hP : va_P (dC, dI) classes ((ou, .inl (kL, 1, .inr (.inl oo))) :: wV M Y1 G' S') H := hP
  have hD : va_D A ((ou, .inl (kL, 1, .inr (.inl oo))) :: wV M Y1 G' S') := hD
  refine lv_i2l hx hb d_La_make_7 rfl ?_
  refine va_last hx hb hK hP hD hS 0 0 rfl rfl (by unfold vp_in; decide) d_La_make_8 (fun H locs hP hD hS => ?_)
  refine lv_goto (tgt := 21) hx hb d_La_make_9 (by decide) ?_
  refine lv_iconst (v := 0) hx hb d_La_make_21 (by decide) ?_
  exact W.iret (v := 0) hx hb hr (fun t ht hW => ⟨⟨0, Y1, rfl, rfl, by rw [ht]; exact hP, va_K.moved hW.alike hK, hD⟩, hS.F ht⟩) hS.2.2 d_La_make_22
set_option maxHeartbeats 4000000 in
set_option maxRecDepth 100000 in
theorem la_make_0 (l : Launch) (hfl : l.flags = pinnedFlags ++ [noTraceFlag]) (dC : Nat → ClassId) (dI : Nat → Nat → Nat) {K : Nat} {M : CA} {E : (Nat → Prop) → State → Prop} (X : ly_X l dC dI K M E) (Xm : lz_miss E) (sz : Nat) {Y : CT} {G0 G' : CG} {S S' : CS} (ou : Nat) (kL : ClassId) (oo : Nat → Int64) {p0 : Int32} (h : f_Vt_make K G0 S p0 = some (.error 0, G', S')) : Met l y_La_make (.codeWith y_La_make b_La_make 4 (some .int) [(0, 9, 12, 19), (0, 9, 15, 13), (0, 9, 18, 46)] :: V_Lq) ({ frames := 9, cells := G'.gc - G0.gc, slots := G'.gs - G0.gs, locals := 246 }) (va_Pc [.ref M.o_Vt, .int p0, .ref ou] (fun U => U.heap.size = sz ∧ at_ (dC, dI) (fun _ => True) ((ou, .inl (kL, 1, .inr (.inl oo))) :: wV M Y G0 S) ((kL, .long) :: tV M) U ∧ E (va_A ((ou, .inl (kL, 1, .inr (.inl oo))) :: wV M Y G0 S) sz) U)) (va_Qi (fun (r_ : Int32) (u : CT) => r_ = 2) (fun (u : CT) t => at_ (dC, dI) (va_A ((ou, .inl (kL, 1, .inr (.inl oo))) :: wV M Y G0 S) sz) ((ou, .inl (kL, 1, .inr (.inl oo))) :: wV M u G' S') ((kL, .long) :: tV M) t) (va_A ((ou, .inl (kL, 1, .inr (.inl oo))) :: wV M Y G0 S) sz)) (G'.gc - G0.gc) (G'.gs - G0.gs) (va_A ((ou, .inl (kL, 1, .inr (.inl oo))) :: wV M Y G0 S) sz) := by
  refine MetW.ofW (handlers := [(0, 9, 12, 19), (0, 9, 15, 13), (0, 9, 18, 46)]) (cc := b_La_make) (maxL := 4) (ret := (some .int)) (by decide) rfl ?_
  intro p e s m args below meth c s₁ B hml htab hv
  obtain ⟨rfl, hsz, ⟨hP, hK, hD0⟩, hE⟩ := hv
  have hx := B.exec
  have hb := B.bytes
  have hr := B.returns
  have hlocks := B.notSynchronized
  have hts0 := atoms_spec (ws := .codeWith y_La_make b_La_make 4 (some .int) [(0, 9, 12, 19), (0, 9, 15, 13), (0, 9, 18, 46)] :: V_Lq) B.pre
  have hts : ∀ w ∈ V_Lq, w.before ([.ref M.o_Vt, .int p0, .ref ou] : List Value).toArray s = true := fun w h => hts0 w (List.mem_cons_of_mem _ h)
  have hown : s.vm.findClass R_La = some m.cls := findClass_of_methodNamed B.named
  subst hsz
  have hD := hD0.self (sz := s.heap.size)
  generalize hAe : va_A ((ou, .inl (kL, 1, .inr (.inl oo))) :: wV M Y G0 S) s.heap.size = A at hD hE ⊢
  have hA : ∀ q : Nat, s.heap.size ≤ q → A q := fun q h => by rw [← hAe]; exact Or.inr h
  have hS : va_S A s.heap s.heap [] := va_S.rf
  have hP : va_P (dC, dI) classes ((ou, .inl (kL, 1, .inr (.inl oo))) :: wV M Y G0 S) s.heap := hP
  have hK : va_K (dC, dI) classes ((kL, .long) :: tV M) s := hK
  have hEw : ∀ (H : Heap) (locs : List Loc), va_S A s.heap H locs → ∀ U : State, U.heap = H → s.WarmedH U.vm → E A U := fun H locs hS U hU hW => X.kept A s U H locs hE hS hU hW
  have hl := lv_entry ([.ref M.o_Vt, .int p0, .ref ou]) (n := 4) (Nat.le_of_ble_eq_true rfl)
  rw [lg_entry_eq]
  generalize (lg_sl ([.ref M.o_Vt, .int p0, .ref ou]) ++ List.replicate (4 - (lg_sl ([.ref M.o_Vt, .int p0, .ref ou])).length) Slot.unset).toArray = ls at hl ⊢
  have hl : lv_has ls 4 [(0, .ref M.o_Vt), (1, .int p0), (2, .ref ou)] := hl
  refine lv_aload_n hx hb d_La_make_0 rfl (lv_at hl 2 rfl) ?_
  refine lv_iconst (v := 0) hx hb d_La_make_1 (by decide) ?_
  refine lv_aload_n hx hb d_La_make_2 rfl (lv_at hl 0 rfl) ?_
  refine lv_iload_n hx hb d_La_make_3 rfl (lv_at hl 1 rfl) ?_
  have hPc := hP.sub (ws' := wV M Y G0 S) [1, 2, 3, 4, 5, 6, 7, 8, 9, 10, 11, 12, 13, 14, 15, 16, 17, 18, 19, 20, 21, 22, 23, 24, 25, 26, 27, 28, 29, 30, 31, 32, 33, 34, 35, 36, 37, 38, 39, 40, 41, 42, 43, 44, 45] rfl
  have hDc := hD.sub (ws' := wV M Y G0 S) [1, 2, 3, 4, 5, 6, 7, 8, 9, 10, 11, 12, 13, 14, 15, 16, 17, 18, 19, 20, 21, 22, 23, 24, 25, 26, 27, 28, 29, 30, 31, 32, 33, 34, 35, 36, 37, 38, 39, 40, 41, 42, 43, 44, 45] (by decide) rfl
  have hKc := hK.sub (tys' := tV M) [1, 2, 3] rfl
  have hFc := va_free (wc := wV M Y G0 S) hD hS hA [1, 2, 3, 4, 5, 6, 7, 8, 9, 10, 11, 12, 13, 14, 15, 16, 17, 18, 19, 20, 21, 22, 23, 24, 25, 26, 27, 28, 29, 30, 31, 32, 33, 34, 35, 36, 37, 38, 39, 40, 41, 42, 43, 44, 45] rfl
  obtain ⟨k0, hk0, -⟩ := classAt_of (hts _ (u_Lq_Vt _ k_Vt_101))
  obtain ⟨j0, hj0, -⟩ := classAt_of (hts _ (u_Lq_Vt _ k_Vt_115))
  have hmiss : ∀ k1, s.vm.findClass "java/lang/IllegalArgumentException" = some k1 → ∀ z ∈ ([⟨0, 9, 12, 19⟩] : List ExceptionTableEntry), x_miss R_La ([.ref M.o_Vt, .int p0, .ref ou] : List Value).toArray s k1 4 z := by
    intro k1 z9 z hz
    simp only [List.mem_cons, List.not_mem_nil, or_false] at hz
    subst hz
    exact ⟨by decide, by decide, "java/lang/IllegalStateException", j0, hts _ (u_Lq_La _ k_La_24), hj0, Xm A s hE "java/lang/IllegalArgumentException" "java/lang/IllegalStateException" (by decide) k1 j0 z9 hj0⟩
  refine x_catV (n := 1) (As := [.int p0]) (rest := [.int 0, .ref ou]) (b := M.o_Vt) (st0 := [.int p0, .ref M.o_Vt, .int 0, .ref ou]) ⟨hx, hb, hml, hown, hts⟩ (lt_Vt_make_0 l hfl dC dI X _ h) (cwV 1 hts (gwV good_Lq (u_Lq_La _ k_La_51) (u_Lq_Vt _ k_Vt_163) (u_Lq_Vt _ k_Vt_164) (u_Lq_Vt _ k_Vt_0) (wcs (u_Lq_Vt _ k_Vt_165) u_Lq_Vq)) rfl rfl rfl (by decide +kernel) ⟨Nat.le_of_ble_eq_true rfl, Nat.le_of_ble_eq_true rfl⟩) (pv_ofE (X.same _) (fun U z1 z2 => X.mono _ _ U hFc (hEw _ _ hS U z1 z2)) hPc hKc hDc (va_recv hKc hPc (ci := 11) (q0 := 0) rfl rfl)) rfl hl.1 rfl (Nat.le_of_ble_eq_true rfl) d_La_make_4 ⟨Nat.le_of_eq (Nat.zero_add _), Nat.le_of_eq (Nat.zero_add _)⟩ (E0 := "java/lang/IllegalArgumentException") (fun E st t z => z.1) ⟨k0, hk0⟩ (x := ⟨0, 9, 15, 13⟩) (pre := [⟨0, 9, 12, 19⟩]) (nm := "java/lang/IllegalArgumentException") (cn := k0) htab hmiss rfl (by decide) (hts _ (u_Lq_La _ k_La_19)) hk0 (fun k1 z9 => by rw [hk0] at z9; cases z9; exact x_refl _ _) (fun qx st t L z1 z2 z3 z4 z5 => ?_)
  have hS := x_catS hS z1 z3.2.1 hFc z5
  obtain ⟨Y1, hP1, -, hD1⟩ := z3.2.2
  obtain ⟨hP, hD⟩ := va_join (wr := [(ou, .inl (kL, 1, .inr (.inl oo)))]) (w1 := wV M Y1 G' S') hP hD [1, 2, 3, 4, 5, 6, 7, 8, 9, 10, 11, 12, 13, 14, 15, 16, 17, 18, 19, 20, 21, 22, 23, 24, 25, 26, 27, 28, 29, 30, 31, 32, 33, 34, 35, 36, 37, 38, 39, 40, 41, 42, 43, 44, 45] [0] rfl rfl (by decide) (by decide) (fun q a b => by have z := z3.2.1.2 q (by rw [z1]; exact a) b; rw [z1] at z; exact z) hFc hP1 hD1
  have hP : va_P (dC, dI) classes ((ou, .inl (kL, 1, .inr (.inl oo))) :: wV M Y1 G' S') t.heap := hP
  have hD : va_D A ((ou, .inl (kL, 1, .inr (.inl oo))) :: wV M Y1 G' S') := hD
  generalize t.heap = H at hP hS ⊢
  show W _ _ _ _ _ _ _ _ _ _ _ _ _ _ _ (F0 m 15 ls [.ref qx])
  refine W.widen (k := G'.gc - G0.gc) (n := G'.gs - G0.gs) (Nat.le_of_eq (Nat.zero_add _)) (Nat.le_of_eq (Nat.zero_add _)) ?_
  refine lv_astore_n (lv' := [(3, .ref qx), (0, .ref M.o_Vt), (1, .int p0), (2, .ref ou)]) hx hb d_La_make_15 rfl hl (by decide) rfl (fun ls hl => ?_)
  refine lv_iconst (v := 2) hx hb d_La_make_16 (by decide) ?_
  exact W.iret (v := 2) hx hb hr (fun t ht hW => ⟨⟨2, Y1, rfl, rfl, by rw [ht]; exact hP, va_K.moved hW.alike hK, hD⟩, hS.F ht⟩) hS.2.2 d_La_make_17
set_option maxHeartbeats 4000000 in
set_option maxRecDepth 100000 in
theorem la_make_1 (l : Launch) (hfl : l.flags = pinnedFlags ++ [noTraceFlag]) (dC : Nat → ClassId) (dI : Nat → Nat → Nat) {K : Nat} {M : CA} {E : (Nat → Prop) → State → Prop} (X : ly_X l dC dI K M E) (sz : Nat) {Y : CT} {G0 G' : CG} {S S' : CS} (ou : Nat) (kL : ClassId) (oo : Nat → Int64) {p0 : Int32} (h : f_Vt_make K G0 S p0 = some (.error 1, G', S')) : Met l y_La_make (.codeWith y_La_make b_La_make 4 (some .int) [(0, 9, 12, 19), (0, 9, 15, 13), (0, 9, 18, 46)] :: V_Lq) ({ frames := 9, cells := G'.gc - G0.gc, slots := G'.gs - G0.gs, locals := 246 }) (va_Pc [.ref M.o_Vt, .int p0, .ref ou] (fun U => U.heap.size = sz ∧ at_ (dC, dI) (fun _ => True) ((ou, .inl (kL, 1, .inr (.inl oo))) :: wV M Y G0 S) ((kL, .long) :: tV M) U ∧ E (va_A ((ou, .inl (kL, 1, .inr (.inl oo))) :: wV M Y G0 S) sz) U)) (va_Qi (fun (r_ : Int32) (u : CT) => r_ = 1) (fun (u : CT) t => at_ (dC, dI) (va_A ((ou, .inl (kL, 1, .inr (.inl oo))) :: wV M Y G0 S) sz) ((ou, .inl (kL, 1, .inr (.inl oo))) :: wV M u G' S') ((kL, .long) :: tV M) t) (va_A ((ou, .inl (kL, 1, .inr (.inl oo))) :: wV M Y G0 S) sz)) (G'.gc - G0.gc) (G'.gs - G0.gs) (va_A ((ou, .inl (kL, 1, .inr (.inl oo))) :: wV M Y G0 S) sz) := by
  refine MetW.ofW (handlers := [(0, 9, 12, 19), (0, 9, 15, 13), (0, 9, 18, 46)]) (cc := b_La_make) (maxL := 4) (ret := (some .int)) (by decide) rfl ?_
  intro p e s m args below meth c s₁ B hml htab hv
  obtain ⟨rfl, hsz, ⟨hP, hK, hD0⟩, hE⟩ := hv
  have hx := B.exec
  have hb := B.bytes
  have hr := B.returns
  have hlocks := B.notSynchronized
  have hts0 := atoms_spec (ws := .codeWith y_La_make b_La_make 4 (some .int) [(0, 9, 12, 19), (0, 9, 15, 13), (0, 9, 18, 46)] :: V_Lq) B.pre
  have hts : ∀ w ∈ V_Lq, w.before ([.ref M.o_Vt, .int p0, .ref ou] : List Value).toArray s = true := fun w h => hts0 w (List.mem_cons_of_mem _ h)
  have hown : s.vm.findClass R_La = some m.cls := findClass_of_methodNamed B.named
  subst hsz
  have hD := hD0.self (sz := s.heap.size)
  generalize hAe : va_A ((ou, .inl (kL, 1, .inr (.inl oo))) :: wV M Y G0 S) s.heap.size = A at hD hE ⊢
  have hA : ∀ q : Nat, s.heap.size ≤ q → A q := fun q h => by rw [← hAe]; exact Or.inr h
  have hS : va_S A s.heap s.heap [] := va_S.rf
  have hP : va_P (dC, dI) classes ((ou, .inl (kL, 1, .inr (.inl oo))) :: wV M Y G0 S) s.heap := hP
  have hK : va_K (dC, dI) classes ((kL, .long) :: tV M) s := hK
  have hEw : ∀ (H : Heap) (locs : List Loc), va_S A s.heap H locs → ∀ U : State, U.heap = H → s.WarmedH U.vm → E A U := fun H locs hS U hU hW => X.kept A s U H locs hE hS hU hW
  have hl := lv_entry ([.ref M.o_Vt, .int p0, .ref ou]) (n := 4) (Nat.le_of_ble_eq_true rfl)
  rw [lg_entry_eq]
  generalize (lg_sl ([.ref M.o_Vt, .int p0, .ref ou]) ++ List.replicate (4 - (lg_sl ([.ref M.o_Vt, .int p0, .ref ou])).length) Slot.unset).toArray = ls at hl ⊢
  have hl : lv_has ls 4 [(0, .ref M.o_Vt), (1, .int p0), (2, .ref ou)] := hl
  refine lv_aload_n hx hb d_La_make_0 rfl (lv_at hl 2 rfl) ?_
  refine lv_iconst (v := 0) hx hb d_La_make_1 (by decide) ?_
  refine lv_aload_n hx hb d_La_make_2 rfl (lv_at hl 0 rfl) ?_
  refine lv_iload_n hx hb d_La_make_3 rfl (lv_at hl 1 rfl) ?_
  have hPc := hP.sub (ws' := wV M Y G0 S) [1, 2, 3, 4, 5, 6, 7, 8, 9, 10, 11, 12, 13, 14, 15, 16, 17, 18, 19, 20, 21, 22, 23, 24, 25, 26, 27, 28, 29, 30, 31, 32, 33, 34, 35, 36, 37, 38, 39, 40, 41, 42, 43, 44, 45] rfl
  have hDc := hD.sub (ws' := wV M Y G0 S) [1, 2, 3, 4, 5, 6, 7, 8, 9, 10, 11, 12, 13, 14, 15, 16, 17, 18, 19, 20, 21, 22, 23, 24, 25, 26, 27, 28, 29, 30, 31, 32, 33, 34, 35, 36, 37, 38, 39, 40, 41, 42, 43, 44, 45] (by decide) rfl
  have hKc := hK.sub (tys' := tV M) [1, 2, 3] rfl
  have hFc := va_free (wc := wV M Y G0 S) hD hS hA [1, 2, 3, 4, 5, 6, 7, 8, 9, 10, 11, 12, 13, 14, 15, 16, 17, 18, 19, 20, 21, 22, 23, 24, 25, 26, 27, 28, 29, 30, 31, 32, 33, 34, 35, 36, 37, 38, 39, 40, 41, 42, 43, 44, 45] rfl
  obtain ⟨k0, hk0, -⟩ := classAt_of (hts _ (u_Lq_Vt _ k_Vt_115))
  refine x_catV (n := 1) (As := [.int p0]) (rest := [.int 0, .ref ou]) (b := M.o_Vt) (st0 := [.int p0, .ref M.o_Vt, .int 0, .ref ou]) ⟨hx, hb, hml, hown, hts⟩ (lt_Vt_make_1 l hfl dC dI X _ h) (cwV 1 hts (gwV good_Lq (u_Lq_La _ k_La_51) (u_Lq_Vt _ k_Vt_163) (u_Lq_Vt _ k_Vt_164) (u_Lq_Vt _ k_Vt_0) (wcs (u_Lq_Vt _ k_Vt_165) u_Lq_Vq)) rfl rfl rfl (by decide +kernel) ⟨Nat.le_of_ble_eq_true rfl, Nat.le_of_ble_eq_true rfl⟩) (pv_ofE (X.same _) (fun U z1 z2 => X.mono _ _ U hFc (hEw _ _ hS U z1 z2)) hPc hKc hDc (va_recv hKc hPc (ci := 11) (q0 := 0) rfl rfl)) rfl hl.1 rfl (Nat.le_of_ble_eq_true rfl) d_La_make_4 ⟨Nat.le_of_eq (Nat.zero_add _), Nat.le_of_eq (Nat.zero_add _)⟩ (E0 := "java/lang/IllegalStateException") (fun E st t z => z.1) ⟨k0, hk0⟩ (x := ⟨0, 9, 12, 19⟩) (pre := []) (nm := "java/lang/IllegalStateException") (cn := k0) htab (fun k1 z9 z hz => absurd hz List.not_mem_nil) rfl (by decide) (hts _ (u_Lq_La _ k_La_24)) hk0 (fun k1 z9 => by rw [hk0] at z9; cases z9; exact x_refl _ _) (fun qx st t L z1 z2 z3 z4 z5 => ?_)
  have hS := x_catS hS z1 z3.2.1 hFc z5
  obtain ⟨Y1, hP1, -, hD1⟩ := z3.2.2
  obtain ⟨hP, hD⟩ := va_join (wr := [(ou, .inl (kL, 1, .inr (.inl oo)))]) (w1 := wV M Y1 G' S') hP hD [1, 2, 3, 4, 5, 6, 7, 8, 9, 10, 11, 12, 13, 14, 15, 16, 17, 18, 19, 20, 21, 22, 23, 24, 25, 26, 27, 28, 29, 30, 31, 32, 33, 34, 35, 36, 37, 38, 39, 40, 41, 42, 43, 44, 45] [0] rfl rfl (by decide) (by decide) (fun q a b => by have z := z3.2.1.2 q (by rw [z1]; exact a) b; rw [z1] at z; exact z) hFc hP1 hD1
  have hP : va_P (dC, dI) classes ((ou, .inl (kL, 1, .inr (.inl oo))) :: wV M Y1 G' S') t.heap := hP
  have hD : va_D A ((ou, .inl (kL, 1, .inr (.inl oo))) :: wV M Y1 G' S') := hD
  generalize t.heap = H at hP hS ⊢
  show W _ _ _ _ _ _ _ _ _ _ _ _ _ _ _ (F0 m 12 ls [.ref qx])
  refine W.widen (k := G'.gc - G0.gc) (n := G'.gs - G0.gs) (Nat.le_of_eq (Nat.zero_add _)) (Nat.le_of_eq (Nat.zero_add _)) ?_
  refine lv_astore_n (lv' := [(3, .ref qx), (0, .ref M.o_Vt), (1, .int p0), (2, .ref ou)]) hx hb d_La_make_12 rfl hl (by decide) rfl (fun ls hl => ?_)
  refine lv_iconst (v := 1) hx hb d_La_make_13 (by decide) ?_
  exact W.iret (v := 1) hx hb hr (fun t ht hW => ⟨⟨1, Y1, rfl, rfl, by rw [ht]; exact hP, va_K.moved hW.alike hK, hD⟩, hS.F ht⟩) hS.2.2 d_La_make_14
set_option maxHeartbeats 4000000 in
set_option maxRecDepth 100000 in
theorem la_make_3 (l : Launch) (hfl : l.flags = pinnedFlags ++ [noTraceFlag]) (dC : Nat → ClassId) (dI : Nat → Nat → Nat) {K : Nat} {M : CA} {E : (Nat → Prop) → State → Prop} (X : ly_X l dC dI K M E) (Xm : lz_miss E) (sz : Nat) {Y : CT} {G0 G' : CG} {S S' : CS} (ou : Nat) (kL : ClassId) (oo : Nat → Int64) {p0 : Int32} (h : f_Vt_make K G0 S p0 = some (.error 3, G', S')) : Met l y_La_make (.codeWith y_La_make b_La_make 4 (some .int) [(0, 9, 12, 19), (0, 9, 15, 13), (0, 9, 18, 46)] :: V_Lq) ({ frames := 9, cells := G'.gc - G0.gc, slots := G'.gs - G0.gs, locals := 246 }) (va_Pc [.ref M.o_Vt, .int p0, .ref ou] (fun U => U.heap.size = sz ∧ at_ (dC, dI) (fun _ => True) ((ou, .inl (kL, 1, .inr (.inl oo))) :: wV M Y G0 S) ((kL, .long) :: tV M) U ∧ E (va_A ((ou, .inl (kL, 1, .inr (.inl oo))) :: wV M Y G0 S) sz) U)) (va_Qi (fun (r_ : Int32) (u : CT) => r_ = 3) (fun (u : CT) t => at_ (dC, dI) (va_A ((ou, .inl (kL, 1, .inr (.inl oo))) :: wV M Y G0 S) sz) ((ou, .inl (kL, 1, .inr (.inl oo))) :: wV M u G' S') ((kL, .long) :: tV M) t) (va_A ((ou, .inl (kL, 1, .inr (.inl oo))) :: wV M Y G0 S) sz)) (G'.gc - G0.gc) (G'.gs - G0.gs) (va_A ((ou, .inl (kL, 1, .inr (.inl oo))) :: wV M Y G0 S) sz) := by
  refine MetW.ofW (handlers := [(0, 9, 12, 19), (0, 9, 15, 13), (0, 9, 18, 46)]) (cc := b_La_make) (maxL := 4) (ret := (some .int)) (by decide) rfl ?_
  intro p e s m args below meth c s₁ B hml htab hv
  obtain ⟨rfl, hsz, ⟨hP, hK, hD0⟩, hE⟩ := hv
  have hx := B.exec
  have hb := B.bytes
  have hr := B.returns
  have hlocks := B.notSynchronized
  have hts0 := atoms_spec (ws := .codeWith y_La_make b_La_make 4 (some .int) [(0, 9, 12, 19), (0, 9, 15, 13), (0, 9, 18, 46)] :: V_Lq) B.pre
  have hts : ∀ w ∈ V_Lq, w.before ([.ref M.o_Vt, .int p0, .ref ou] : List Value).toArray s = true := fun w h => hts0 w (List.mem_cons_of_mem _ h)
  have hown : s.vm.findClass R_La = some m.cls := findClass_of_methodNamed B.named
  subst hsz
  have hD := hD0.self (sz := s.heap.size)
  generalize hAe : va_A ((ou, .inl (kL, 1, .inr (.inl oo))) :: wV M Y G0 S) s.heap.size = A at hD hE ⊢
  have hA : ∀ q : Nat, s.heap.size ≤ q → A q := fun q h => by rw [← hAe]; exact Or.inr h
  have hS : va_S A s.heap s.heap [] := va_S.rf
  have hP : va_P (dC, dI) classes ((ou, .inl (kL, 1, .inr (.inl oo))) :: wV M Y G0 S) s.heap := hP
  have hK : va_K (dC, dI) classes ((kL, .long) :: tV M) s := hK
  have hEw : ∀ (H : Heap) (locs : List Loc), va_S A s.heap H locs → ∀ U : State, U.heap = H → s.WarmedH U.vm → E A U := fun H locs hS U hU hW => X.kept A s U H locs hE hS hU hW
  have hl := lv_entry ([.ref M.o_Vt, .int p0, .ref ou]) (n := 4) (Nat.le_of_ble_eq_true rfl)
  rw [lg_entry_eq]
  generalize (lg_sl ([.ref M.o_Vt, .int p0, .ref ou]) ++ List.replicate (4 - (lg_sl ([.ref M.o_Vt, .int p0, .ref ou])).length) Slot.unset).toArray = ls at hl ⊢
  have hl : lv_has ls 4 [(0, .ref M.o_Vt), (1, .int p0), (2, .ref ou)] := hl
  refine lv_aload_n hx hb d_La_make_0 rfl (lv_at hl 2 rfl) ?_
  refine lv_iconst (v := 0) hx hb d_La_make_1 (by decide) ?_
  refine lv_aload_n hx hb d_La_make_2 rfl (lv_at hl 0 rfl) ?_
  refine lv_iload_n hx hb d_La_make_3 rfl (lv_at hl 1 rfl) ?_
  have hPc := hP.sub (ws' := wV M Y G0 S) [1, 2, 3, 4, 5, 6, 7, 8, 9, 10, 11, 12, 13, 14, 15, 16, 17, 18, 19, 20, 21, 22, 23, 24, 25, 26, 27, 28, 29, 30, 31, 32, 33, 34, 35, 36, 37, 38, 39, 40, 41, 42, 43, 44, 45] rfl
  have hDc := hD.sub (ws' := wV M Y G0 S) [1, 2, 3, 4, 5, 6, 7, 8, 9, 10, 11, 12, 13, 14, 15, 16, 17, 18, 19, 20, 21, 22, 23, 24, 25, 26, 27, 28, 29, 30, 31, 32, 33, 34, 35, 36, 37, 38, 39, 40, 41, 42, 43, 44, 45] (by decide) rfl
  have hKc := hK.sub (tys' := tV M) [1, 2, 3] rfl
  have hFc := va_free (wc := wV M Y G0 S) hD hS hA [1, 2, 3, 4, 5, 6, 7, 8, 9, 10, 11, 12, 13, 14, 15, 16, 17, 18, 19, 20, 21, 22, 23, 24, 25, 26, 27, 28, 29, 30, 31, 32, 33, 34, 35, 36, 37, 38, 39, 40, 41, 42, 43, 44, 45] rfl
  obtain ⟨k0, hk0, -⟩ := classAt_of (hts _ (u_Lq_Vt _ k_Vt_173))
  obtain ⟨j0, hj0, -⟩ := classAt_of (hts _ (u_Lq_Vt _ k_Vt_115))
  obtain ⟨j1, hj1, -⟩ := classAt_of (hts _ (u_Lq_Vt _ k_Vt_101))
  have hmiss : ∀ k1, s.vm.findClass "java/lang/UnsupportedOperationException" = some k1 → ∀ z ∈ ([⟨0, 9, 12, 19⟩, ⟨0, 9, 15, 13⟩] : List ExceptionTableEntry), x_miss R_La ([.ref M.o_Vt, .int p0, .ref ou] : List Value).toArray s k1 4 z := by
    intro k1 z9 z hz
    simp only [List.mem_cons, List.not_mem_nil, or_false] at hz
    rcases hz with rfl | rfl
    · exact ⟨by decide, by decide, "java/lang/IllegalStateException", j0, hts _ (u_Lq_La _ k_La_24), hj0, Xm A s hE "java/lang/UnsupportedOperationException" "java/lang/IllegalStateException" (by decide) k1 j0 z9 hj0⟩
    · exact ⟨by decide, by decide, "java/lang/IllegalArgumentException", j1, hts _ (u_Lq_La _ k_La_19), hj1, Xm A s hE "java/lang/UnsupportedOperationException" "java/lang/IllegalArgumentException" (by decide) k1 j1 z9 hj1⟩
  refine x_catV (n := 1) (As := [.int p0]) (rest := [.int 0, .ref ou]) (b := M.o_Vt) (st0 := [.int p0, .ref M.o_Vt, .int 0, .ref ou]) ⟨hx, hb, hml, hown, hts⟩ (lt_Vt_make_3 l hfl dC dI X _ h) (cwV 1 hts (gwV good_Lq (u_Lq_La _ k_La_51) (u_Lq_Vt _ k_Vt_163) (u_Lq_Vt _ k_Vt_164) (u_Lq_Vt _ k_Vt_0) (wcs (u_Lq_Vt _ k_Vt_165) u_Lq_Vq)) rfl rfl rfl (by decide +kernel) ⟨Nat.le_of_ble_eq_true rfl, Nat.le_of_ble_eq_true rfl⟩) (pv_ofE (X.same _) (fun U z1 z2 => X.mono _ _ U hFc (hEw _ _ hS U z1 z2)) hPc hKc hDc (va_recv hKc hPc (ci := 11) (q0 := 0) rfl rfl)) rfl hl.1 rfl (Nat.le_of_ble_eq_true rfl) d_La_make_4 ⟨Nat.le_of_eq (Nat.zero_add _), Nat.le_of_eq (Nat.zero_add _)⟩ (E0 := "java/lang/UnsupportedOperationException") (fun E st t z => z.1) ⟨k0, hk0⟩ (x := ⟨0, 9, 18, 46⟩) (pre := [⟨0, 9, 12, 19⟩, ⟨0, 9, 15, 13⟩]) (nm := "java/lang/UnsupportedOperationException") (cn := k0) htab hmiss rfl (by decide) (hts _ (u_Lq_La _ k_La_50)) hk0 (fun k1 z9 => by rw [hk0] at z9; cases z9; exact x_refl _ _) (fun qx st t L z1 z2 z3 z4 z5 => ?_)
  have hS := x_catS hS z1 z3.2.1 hFc z5
  obtain ⟨Y1, hP1, -, hD1⟩ := z3.2.2
  obtain ⟨hP, hD⟩ := va_join (wr := [(ou, .inl (kL, 1, .inr (.inl oo)))]) (w1 := wV M Y1 G' S') hP hD [1, 2, 3, 4, 5, 6, 7, 8, 9, 10, 11, 12, 13, 14, 15, 16, 17, 18, 19, 20, 21, 22, 23, 24, 25, 26, 27, 28, 29, 30, 31, 32, 33, 34, 35, 36, 37, 38, 39, 40, 41, 42, 43, 44, 45] [0] rfl rfl (by decide) (by decide) (fun q a b => by have z := z3.2.1.2 q (by rw [z1]; exact a) b; rw [z1] at z; exact z) hFc hP1 hD1
  have hP : va_P (dC, dI) classes ((ou, .inl (kL, 1, .inr (.inl oo))) :: wV M Y1 G' S') t.heap := hP
  have hD : va_D A ((ou, .inl (kL, 1, .inr (.inl oo))) :: wV M Y1 G' S') := hD
  generalize t.heap = H at hP hS ⊢
  show W _ _ _ _ _ _ _ _ _ _ _ _ _ _ _ (F0 m 18 ls [.ref qx])
  refine W.widen (k := G'.gc - G0.gc) (n := G'.gs - G0.gs) (Nat.le_of_eq (Nat.zero_add _)) (Nat.le_of_eq (Nat.zero_add _)) ?_
  refine lv_astore_n (lv' := [(3, .ref qx), (0, .ref M.o_Vt), (1, .int p0), (2, .ref ou)]) hx hb d_La_make_18 rfl hl (by decide) rfl (fun ls hl => ?_)
  refine lv_iconst (v := 3) hx hb d_La_make_19 (by decide) ?_
  exact W.iret (v := 3) hx hb hr (fun t ht hW => ⟨⟨3, Y1, rfl, rfl, by rw [ht]; exact hP, va_K.moved hW.alike hK, hD⟩, hS.F ht⟩) hS.2.2 d_La_make_20
set_option maxHeartbeats 4000000 in
set_option maxRecDepth 100000 in
theorem la_write_ok (l : Launch) (hfl : l.flags = pinnedFlags ++ [noTraceFlag]) (dC : Nat → ClassId) (dI : Nat → Nat → Nat) {K : Nat} {M : CA} {E : (Nat → Prop) → State → Prop} (X : ly_X l dC dI K M E) (sz : Nat) {Y : CT} {G0 G' : CG} {S S' : CS} (ou : Nat) (kL : ClassId) (oo : Nat → Int64) {p0 : Int32} {r : Int32} (h : f_Vt_write K G0 S p0 = some (.ok r, G', S')) : Met l y_La_write (.codeWith y_La_write b_La_write 4 (some .int) [(0, 9, 12, 19), (0, 9, 15, 25), (0, 9, 18, 13), (0, 9, 21, 46)] :: V_Lq) ({ frames := 9, cells := G'.gc - G0.gc, slots := G'.gs - G0.gs, locals := 250 }) (va_Pc [.ref M.o_Vt, .int p0, .ref ou] (fun U => U.heap.size = sz ∧ at_ (dC, dI) (fun _ => True) ((ou, .inl (kL, 1, .inr (.inl oo))) :: wV M Y G0 S) ((kL, .long) :: tV M) U ∧ E (va_A ((ou, .inl (kL, 1, .inr (.inl oo))) :: wV M Y G0 S) sz) U)) (va_Qi (fun (r_ : Int32) (u : CT) => r_ = 0) (fun (u : CT) t => at_ (dC, dI) (va_A ((ou, .inl (kL, 1, .inr (.inl oo))) :: wV M Y G0 S) sz) ((ou, .inl (kL, 1, .inr (.inl (vp_updL oo (0 : Int32).toNatClampNeg r.toInt64)))) :: wV M u G' S') ((kL, .long) :: tV M) t) (va_A ((ou, .inl (kL, 1, .inr (.inl oo))) :: wV M Y G0 S) sz)) (G'.gc - G0.gc) (G'.gs - G0.gs) (va_A ((ou, .inl (kL, 1, .inr (.inl oo))) :: wV M Y G0 S) sz) := by
  refine MetW.ofW (handlers := [(0, 9, 12, 19), (0, 9, 15, 25), (0, 9, 18, 13), (0, 9, 21, 46)]) (cc := b_La_write) (maxL := 4) (ret := (some .int)) (by decide) rfl ?_
  intro p e s m args below meth c s₁ B hml htab hv
  obtain ⟨rfl, hsz, ⟨hP, hK, hD0⟩, hE⟩ := hv
  have hx := B.exec
  have hb := B.bytes
  have hr := B.returns
  have hlocks := B.notSynchronized
  have hts0 := atoms_spec (ws := .codeWith y_La_write b_La_write 4 (some .int) [(0, 9, 12, 19), (0, 9, 15, 25), (0, 9, 18, 13), (0, 9, 21, 46)] :: V_Lq) B.pre
  have hts : ∀ w ∈ V_Lq, w.before ([.ref M.o_Vt, .int p0, .ref ou] : List Value).toArray s = true := fun w h => hts0 w (List.mem_cons_of_mem _ h)
  have hown : s.vm.findClass R_La = some m.cls := findClass_of_methodNamed B.named
  subst hsz
  have hD := hD0.self (sz := s.heap.size)
  generalize hAe : va_A ((ou, .inl (kL, 1, .inr (.inl oo))) :: wV M Y G0 S) s.heap.size = A at hD hE ⊢
  have hA : ∀ q : Nat, s.heap.size ≤ q → A q := fun q h => by rw [← hAe]; exact Or.inr h
  have hS : va_S A s.heap s.heap [] := va_S.rf
  have hP : va_P (dC, dI) classes ((ou, .inl (kL, 1, .inr (.inl oo))) :: wV M Y G0 S) s.heap := hP
  have hK : va_K (dC, dI) classes ((kL, .long) :: tV M) s := hK
  have hEw : ∀ (H : Heap) (locs : List Loc), va_S A s.heap H locs → ∀ U : State, U.heap = H → s.WarmedH U.vm → E A U := fun H locs hS U hU hW => X.kept A s U H locs hE hS hU hW
  have hl := lv_entry ([.ref M.o_Vt, .int p0, .ref ou]) (n := 4) (Nat.le_of_ble_eq_true rfl)
  rw [lg_entry_eq]
  generalize (lg_sl ([.ref M.o_Vt, .int p0, .ref ou]) ++ List.replicate (4 - (lg_sl ([.ref M.o_Vt, .int p0, .ref ou])).length) Slot.unset).toArray = ls at hl ⊢
  have hl : lv_has ls 4 [(0, .ref M.o_Vt), (1, .int p0), (2, .ref ou)] := hl
  refine lv_aload_n hx hb d_La_write_0 rfl (lv_at hl 2 rfl) ?_
  refine lv_iconst (v := 0) hx hb d_La_write_1 (by decide) ?_
  refine lv_aload_n hx hb d_La_write_2 rfl (lv_at hl 0 rfl) ?_
  refine lv_iload_n hx hb d_La_write_3 rfl (lv_at hl 1 rfl) ?_
  have hPc := hP.sub (ws' := wV M Y G0 S) [1, 2, 3, 4, 5, 6, 7, 8, 9, 10, 11, 12, 13, 14, 15, 16, 17, 18, 19, 20, 21, 22, 23, 24, 25, 26, 27, 28, 29, 30, 31, 32, 33, 34, 35, 36, 37, 38, 39, 40, 41, 42, 43, 44, 45] rfl
  have hDc := hD.sub (ws' := wV M Y G0 S) [1, 2, 3, 4, 5, 6, 7, 8, 9, 10, 11, 12, 13, 14, 15, 16, 17, 18, 19, 20, 21, 22, 23, 24, 25, 26, 27, 28, 29, 30, 31, 32, 33, 34, 35, 36, 37, 38, 39, 40, 41, 42, 43, 44, 45] (by decide) rfl
  have hKc := hK.sub (tys' := tV M) [1, 2, 3] rfl
  have hFc := va_free (wc := wV M Y G0 S) hD hS hA [1, 2, 3, 4, 5, 6, 7, 8, 9, 10, 11, 12, 13, 14, 15, 16, 17, 18, 19, 20, 21, 22, 23, 24, 25, 26, 27, 28, 29, 30, 31, 32, 33, 34, 35, 36, 37, 38, 39, 40, 41, 42, 43, 44, 45] rfl
  refine va_calli (va_runV (As := [.int p0]) (rest := [.int 0, .ref ou]) ⟨hx, hb, hml, hown, hts⟩ (l_Vt_write l dC dI X _ h) (cwV 1 hts (gwV good_Lq (u_Lq_La _ k_La_55) (u_Lq_Vt _ k_Vt_176) (u_Lq_Vt _ k_Vt_177) (u_Lq_Vt _ k_Vt_0) (wcs (u_Lq_Vt _ k_Vt_178) u_Lq_Vq)) rfl rfl rfl (by decide +kernel) ⟨Nat.le_of_ble_eq_true rfl, Nat.le_of_ble_eq_true rfl⟩) (pv_ofE (X.same _) (fun U z1 z2 => X.mono _ _ U hFc (hEw _ _ hS U z1 z2)) hPc hKc hDc (va_recv hKc hPc (ci := 11) (q0 := 0) rfl rfl)) rfl rfl hl.1 rfl (lv_room (Nat.le_of_ble_eq_true rfl)) d_La_write_4 ⟨Nat.le_of_eq (Nat.zero_add _), Nat.le_of_eq (Nat.zero_add _)⟩) hS (fun q _ h => hFc q h) hFc (fun r_ Y1 t H locs ht hvm hw hB hz1 hk1 hS => ?_)
  rw [hw]
  obtain ⟨hP1, -, hD1⟩ := hB
  rw [ht] at hP1
  obtain ⟨hP, hD⟩ := va_join (wr := [(ou, .inl (kL, 1, .inr (.inl oo)))]) (w1 := wV M Y1 G' S') hP hD [1, 2, 3, 4, 5, 6, 7, 8, 9, 10, 11, 12, 13, 14, 15, 16, 17, 18, 19, 20, 21, 22, 23, 24, 25, 26, 27, 28, 29, 30, 31, 32, 33, 34, 35, 36, 37, 38, 39, 40, 41, 42, 43, 44, 45] [0] rfl rfl (by decide) (by decide) hk1 hFc hP1 hD1
  refine W.widen (k := G'.gc - G0.gc) (n := G'.gs - G0.gs) (Nat.le_of_eq (Nat.zero_add _)) (Nat.le_of_eq (Nat.zero_add _)) ?_
  have hP : va_P (dC, dI) classes ((ou, .inl (kL, 1, .inr (.inl oo))) :: wV M Y1 G' S') H := hP
  have hD : va_D A ((ou, .inl (kL, 1, .inr (.inl oo))) :: wV M Y1 G' S') := hD
  refine lv_i2l hx hb d_La_write_7 rfl ?_
  refine va_last hx hb hK hP hD hS 0 0 rfl rfl (by unfold vp_in; decide) d_La_write_8 (fun H locs hP hD hS => ?_)
  refine lv_goto (tgt := 24) hx hb d_La_write_9 (by decide) ?_
  refine lv_iconst (v := 0) hx hb d_La_write_24 (by decide) ?_
  exact W.iret (v := 0) hx hb hr (fun t ht hW => ⟨⟨0, Y1, rfl, rfl, by rw [ht]; exact hP, va_K.moved hW.alike hK, hD⟩, hS.F ht⟩) hS.2.2 d_La_write_25
set_option maxHeartbeats 4000000 in
set_option maxRecDepth 100000 in
theorem la_write_0 (l : Launch) (hfl : l.flags = pinnedFlags ++ [noTraceFlag]) (dC : Nat → ClassId) (dI : Nat → Nat → Nat) {K : Nat} {M : CA} {E : (Nat → Prop) → State → Prop} (X : ly_X l dC dI K M E) (Xm : lz_miss E) (sz : Nat) {Y : CT} {G0 G' : CG} {S S' : CS} (ou : Nat) (kL : ClassId) (oo : Nat → Int64) {p0 : Int32} (h : f_Vt_write K G0 S p0 = some (.error 0, G', S')) : Met l y_La_write (.codeWith y_La_write b_La_write 4 (some .int) [(0, 9, 12, 19), (0, 9, 15, 25), (0, 9, 18, 13), (0, 9, 21, 46)] :: V_Lq) ({ frames := 9, cells := G'.gc - G0.gc, slots := G'.gs - G0.gs, locals := 250 }) (va_Pc [.ref M.o_Vt, .int p0, .ref ou] (fun U => U.heap.size = sz ∧ at_ (dC, dI) (fun _ => True) ((ou, .inl (kL, 1, .inr (.inl oo))) :: wV M Y G0 S) ((kL, .long) :: tV M) U ∧ E (va_A ((ou, .inl (kL, 1, .inr (.inl oo))) :: wV M Y G0 S) sz) U)) (va_Qi (fun (r_ : Int32) (u : CT) => r_ = 3) (fun (u : CT) t => at_ (dC, dI) (va_A ((ou, .inl (kL, 1, .inr (.inl oo))) :: wV M Y G0 S) sz) ((ou, .inl (kL, 1, .inr (.inl oo))) :: wV M u G' S') ((kL, .long) :: tV M) t) (va_A ((ou, .inl (kL, 1, .inr (.inl oo))) :: wV M Y G0 S) sz)) (G'.gc - G0.gc) (G'.gs - G0.gs) (va_A ((ou, .inl (kL, 1, .inr (.inl oo))) :: wV M Y G0 S) sz) := by
  refine MetW.ofW (handlers := [(0, 9, 12, 19), (0, 9, 15, 25), (0, 9, 18, 13), (0, 9, 21, 46)]) (cc := b_La_write) (maxL := 4) (ret := (some .int)) (by decide) rfl ?_
  intro p e s m args below meth c s₁ B hml htab hv
  obtain ⟨rfl, hsz, ⟨hP, hK, hD0⟩, hE⟩ := hv
  have hx := B.exec
  have hb := B.bytes
  have hr := B.returns
  have hlocks := B.notSynchronized
  have hts0 := atoms_spec (ws := .codeWith y_La_write b_La_write 4 (some .int) [(0, 9, 12, 19), (0, 9, 15, 25), (0, 9, 18, 13), (0, 9, 21, 46)] :: V_Lq) B.pre
  have hts : ∀ w ∈ V_Lq, w.before ([.ref M.o_Vt, .int p0, .ref ou] : List Value).toArray s = true := fun w h => hts0 w (List.mem_cons_of_mem _ h)
  have hown : s.vm.findClass R_La = some m.cls := findClass_of_methodNamed B.named
  subst hsz
  have hD := hD0.self (sz := s.heap.size)
  generalize hAe : va_A ((ou, .inl (kL, 1, .inr (.inl oo))) :: wV M Y G0 S) s.heap.size = A at hD hE ⊢
  have hA : ∀ q : Nat, s.heap.size ≤ q → A q := fun q h => by rw [← hAe]; exact Or.inr h
  have hS : va_S A s.heap s.heap [] := va_S.rf
  have hP : va_P (dC, dI) classes ((ou, .inl (kL, 1, .inr (.inl oo))) :: wV M Y G0 S) s.heap := hP
  have hK : va_K (dC, dI) classes ((kL, .long) :: tV M) s := hK
  have hEw : ∀ (H : Heap) (locs : List Loc), va_S A s.heap H locs → ∀ U : State, U.heap = H → s.WarmedH U.vm → E A U := fun H locs hS U hU hW => X.kept A s U H locs hE hS hU hW
  have hl := lv_entry ([.ref M.o_Vt, .int p0, .ref ou]) (n := 4) (Nat.le_of_ble_eq_true rfl)
  rw [lg_entry_eq]
  generalize (lg_sl ([.ref M.o_Vt, .int p0, .ref ou]) ++ List.replicate (4 - (lg_sl ([.ref M.o_Vt, .int p0, .ref ou])).length) Slot.unset).toArray = ls at hl ⊢
  have hl : lv_has ls 4 [(0, .ref M.o_Vt), (1, .int p0), (2, .ref ou)] := hl
  refine lv_aload_n hx hb d_La_write_0 rfl (lv_at hl 2 rfl) ?_
  refine lv_iconst (v := 0) hx hb d_La_write_1 (by decide) ?_
  refine lv_aload_n hx hb d_La_write_2 rfl (lv_at hl 0 rfl) ?_
  refine lv_iload_n hx hb d_La_write_3 rfl (lv_at hl 1 rfl) ?_
  have hPc := hP.sub (ws' := wV M Y G0 S) [1, 2, 3, 4, 5, 6, 7, 8, 9, 10, 11, 12, 13, 14, 15, 16, 17, 18, 19, 20, 21, 22, 23, 24, 25, 26, 27, 28, 29, 30, 31, 32, 33, 34, 35, 36, 37, 38, 39, 40, 41, 42, 43, 44, 45] rfl
  have hDc := hD.sub (ws' := wV M Y G0 S) [1, 2, 3, 4, 5, 6, 7, 8, 9, 10, 11, 12, 13, 14, 15, 16, 17, 18, 19, 20, 21, 22, 23, 24, 25, 26, 27, 28, 29, 30, 31, 32, 33, 34, 35, 36, 37, 38, 39, 40, 41, 42, 43, 44, 45] (by decide) rfl
  have hKc := hK.sub (tys' := tV M) [1, 2, 3] rfl
  have hFc := va_free (wc := wV M Y G0 S) hD hS hA [1, 2, 3, 4, 5, 6, 7, 8, 9, 10, 11, 12, 13, 14, 15, 16, 17, 18, 19, 20, 21, 22, 23, 24, 25, 26, 27, 28, 29, 30, 31, 32, 33, 34, 35, 36, 37, 38, 39, 40, 41, 42, 43, 44, 45] rfl
  obtain ⟨k0, hk0, -⟩ := classAt_of (hts _ (u_Lq_Vt _ k_Vt_101))
  obtain ⟨j0, hj0, -⟩ := classAt_of (hts _ (u_Lq_Vt _ k_Vt_115))
  obtain ⟨j1, hj1, -⟩ := classAt_of (hts _ (u_Lq_Vt _ k_Vt_126))
  have hmiss : ∀ k1, s.vm.findClass "java/lang/IllegalArgumentException" = some k1 → ∀ z ∈ ([⟨0, 9, 12, 19⟩, ⟨0, 9, 15, 25⟩] : List ExceptionTableEntry), x_miss R_La ([.ref M.o_Vt, .int p0, .ref ou] : List Value).toArray s k1 4 z := by
    intro k1 z9 z hz
    simp only [List.mem_cons, List.not_mem_nil, or_false] at hz
    rcases hz with rfl | rfl
    · exact ⟨by decide, by decide, "java/lang/IllegalStateException", j0, hts _ (u_Lq_La _ k_La_24), hj0, Xm A s hE "java/lang/IllegalArgumentException" "java/lang/IllegalStateException" (by decide) k1 j0 z9 hj0⟩
    · exact ⟨by decide, by decide, "java/lang/IndexOutOfBoundsException", j1, hts _ (u_Lq_La _ k_La_29), hj1, Xm A s hE "java/lang/IllegalArgumentException" "java/lang/IndexOutOfBoundsException" (by decide) k1 j1 z9 hj1⟩
  refine x_catV (n := 1) (As := [.int p0]) (rest := [.int 0, .ref ou]) (b := M.o_Vt) (st0 := [.int p0, .ref M.o_Vt, .int 0, .ref ou]) ⟨hx, hb, hml, hown, hts⟩ (lt_Vt_write_0 l hfl dC dI X _ h) (cwV 1 hts (gwV good_Lq (u_Lq_La _ k_La_55) (u_Lq_Vt _ k_Vt_176) (u_Lq_Vt _ k_Vt_177) (u_Lq_Vt _ k_Vt_0) (wcs (u_Lq_Vt _ k_Vt_178) u_Lq_Vq)) rfl rfl rfl (by decide +kernel) ⟨Nat.le_of_ble_eq_true rfl, Nat.le_of_ble_eq_true rfl⟩) (pv_ofE (X.same _) (fun U z1 z2 => X.mono _ _ U hFc (hEw _ _ hS U z1 z2)) hPc hKc hDc (va_recv hKc hPc (ci := 11) (q0 := 0) rfl rfl)) rfl hl.1 rfl (Nat.le_of_ble_eq_true rfl) d_La_write_4 ⟨Nat.le_of_eq (Nat.zero_add _), Nat.le_of_eq (Nat.zero_add _)⟩ (E0 := "java/lang/IllegalArgumentException") (fun E st t z => z.1) ⟨k0, hk0⟩ (x := ⟨0, 9, 18, 13⟩) (pre := [⟨0, 9, 12, 19⟩, ⟨0, 9, 15, 25⟩]) (nm := "java/lang/IllegalArgumentException") (cn := k0) htab hmiss rfl (by decide) (hts _ (u_Lq_La _ k_La_19)) hk0 (fun k1 z9 => by rw [hk0] at z9; cases z9; exact x_refl _ _) (fun qx st t L z1 z2 z3 z4 z5 => ?_)
  have hS := x_catS hS z1 z3.2.1 hFc z5
  obtain ⟨Y1, hP1, -, hD1⟩ := z3.2.2
  obtain ⟨hP, hD⟩ := va_join (wr := [(ou, .inl (kL, 1, .inr (.inl oo)))]) (w1 := wV M Y1 G' S') hP hD [1, 2, 3, 4, 5, 6, 7, 8, 9, 10, 11, 12, 13, 14, 15, 16, 17, 18, 19, 20, 21, 22, 23, 24, 25, 26, 27, 28, 29, 30, 31, 32, 33, 34, 35, 36, 37, 38, 39, 40, 41, 42, 43, 44, 45] [0] rfl rfl (by decide) (by decide) (fun q a b => by have z := z3.2.1.2 q (by rw [z1]; exact a) b; rw [z1] at z; exact z) hFc hP1 hD1
  have hP : va_P (dC, dI) classes ((ou, .inl (kL, 1, .inr (.inl oo))) :: wV M Y1 G' S') t.heap := hP
  have hD : va_D A ((ou, .inl (kL, 1, .inr (.inl oo))) :: wV M Y1 G' S') := hD
  generalize t.heap = H at hP hS ⊢
  show W _ _ _ _ _ _ _ _ _ _ _ _ _ _ _ (F0 m 18 ls [.ref qx])
  refine W.widen (k := G'.gc - G0.gc) (n := G'.gs - G0.gs) (Nat.le_of_eq (Nat.zero_add _)) (Nat.le_of_eq (Nat.zero_add _)) ?_
  refine lv_astore_n (lv' := [(3, .ref qx), (0, .ref M.o_Vt), (1, .int p0), (2, .ref ou)]) hx hb d_La_write_18 rfl hl (by decide) rfl (fun ls hl => ?_)
  refine lv_iconst (v := 3) hx hb d_La_write_19 (by decide) ?_
  exact W.iret (v := 3) hx hb hr (fun t ht hW => ⟨⟨3, Y1, rfl, rfl, by rw [ht]; exact hP, va_K.moved hW.alike hK, hD⟩, hS.F ht⟩) hS.2.2 d_La_write_20
set_option maxHeartbeats 4000000 in
set_option maxRecDepth 100000 in
theorem la_write_1 (l : Launch) (hfl : l.flags = pinnedFlags ++ [noTraceFlag]) (dC : Nat → ClassId) (dI : Nat → Nat → Nat) {K : Nat} {M : CA} {E : (Nat → Prop) → State → Prop} (X : ly_X l dC dI K M E) (sz : Nat) {Y : CT} {G0 G' : CG} {S S' : CS} (ou : Nat) (kL : ClassId) (oo : Nat → Int64) {p0 : Int32} (h : f_Vt_write K G0 S p0 = some (.error 1, G', S')) : Met l y_La_write (.codeWith y_La_write b_La_write 4 (some .int) [(0, 9, 12, 19), (0, 9, 15, 25), (0, 9, 18, 13), (0, 9, 21, 46)] :: V_Lq) ({ frames := 9, cells := G'.gc - G0.gc, slots := G'.gs - G0.gs, locals := 250 }) (va_Pc [.ref M.o_Vt, .int p0, .ref ou] (fun U => U.heap.size = sz ∧ at_ (dC, dI) (fun _ => True) ((ou, .inl (kL, 1, .inr (.inl oo))) :: wV M Y G0 S) ((kL, .long) :: tV M) U ∧ E (va_A ((ou, .inl (kL, 1, .inr (.inl oo))) :: wV M Y G0 S) sz) U)) (va_Qi (fun (r_ : Int32) (u : CT) => r_ = 1) (fun (u : CT) t => at_ (dC, dI) (va_A ((ou, .inl (kL, 1, .inr (.inl oo))) :: wV M Y G0 S) sz) ((ou, .inl (kL, 1, .inr (.inl oo))) :: wV M u G' S') ((kL, .long) :: tV M) t) (va_A ((ou, .inl (kL, 1, .inr (.inl oo))) :: wV M Y G0 S) sz)) (G'.gc - G0.gc) (G'.gs - G0.gs) (va_A ((ou, .inl (kL, 1, .inr (.inl oo))) :: wV M Y G0 S) sz) := by
  refine MetW.ofW (handlers := [(0, 9, 12, 19), (0, 9, 15, 25), (0, 9, 18, 13), (0, 9, 21, 46)]) (cc := b_La_write) (maxL := 4) (ret := (some .int)) (by decide) rfl ?_
  intro p e s m args below meth c s₁ B hml htab hv
  obtain ⟨rfl, hsz, ⟨hP, hK, hD0⟩, hE⟩ := hv
  have hx := B.exec
  have hb := B.bytes
  have hr := B.returns
  have hlocks := B.notSynchronized
  have hts0 := atoms_spec (ws := .codeWith y_La_write b_La_write 4 (some .int) [(0, 9, 12, 19), (0, 9, 15, 25), (0, 9, 18, 13), (0, 9, 21, 46)] :: V_Lq) B.pre
  have hts : ∀ w ∈ V_Lq, w.before ([.ref M.o_Vt, .int p0, .ref ou] : List Value).toArray s = true := fun w h => hts0 w (List.mem_cons_of_mem _ h)
  have hown : s.vm.findClass R_La = some m.cls := findClass_of_methodNamed B.named
  subst hsz
  have hD := hD0.self (sz := s.heap.size)
  generalize hAe : va_A ((ou, .inl (kL, 1, .inr (.inl oo))) :: wV M Y G0 S) s.heap.size = A at hD hE ⊢
  have hA : ∀ q : Nat, s.heap.size ≤ q → A q := fun q h => by rw [← hAe]; exact Or.inr h
  have hS : va_S A s.heap s.heap [] := va_S.rf
  have hP : va_P (dC, dI) classes ((ou, .inl (kL, 1, .inr (.inl oo))) :: wV M Y G0 S) s.heap := hP
  have hK : va_K (dC, dI) classes ((kL, .long) :: tV M) s := hK
  have hEw : ∀ (H : Heap) (locs : List Loc), va_S A s.heap H locs → ∀ U : State, U.heap = H → s.WarmedH U.vm → E A U := fun H locs hS U hU hW => X.kept A s U H locs hE hS hU hW
  have hl := lv_entry ([.ref M.o_Vt, .int p0, .ref ou]) (n := 4) (Nat.le_of_ble_eq_true rfl)
  rw [lg_entry_eq]
  generalize (lg_sl ([.ref M.o_Vt, .int p0, .ref ou]) ++ List.replicate (4 - (lg_sl ([.ref M.o_Vt, .int p0, .ref ou])).length) Slot.unset).toArray = ls at hl ⊢
  have hl : lv_has ls 4 [(0, .ref M.o_Vt), (1, .int p0), (2, .ref ou)] := hl
  refine lv_aload_n hx hb d_La_write_0 rfl (lv_at hl 2 rfl) ?_
  refine lv_iconst (v := 0) hx hb d_La_write_1 (by decide) ?_
  refine lv_aload_n hx hb d_La_write_2 rfl (lv_at hl 0 rfl) ?_
  refine lv_iload_n hx hb d_La_write_3 rfl (lv_at hl 1 rfl) ?_
  have hPc := hP.sub (ws' := wV M Y G0 S) [1, 2, 3, 4, 5, 6, 7, 8, 9, 10, 11, 12, 13, 14, 15, 16, 17, 18, 19, 20, 21, 22, 23, 24, 25, 26, 27, 28, 29, 30, 31, 32, 33, 34, 35, 36, 37, 38, 39, 40, 41, 42, 43, 44, 45] rfl
  have hDc := hD.sub (ws' := wV M Y G0 S) [1, 2, 3, 4, 5, 6, 7, 8, 9, 10, 11, 12, 13, 14, 15, 16, 17, 18, 19, 20, 21, 22, 23, 24, 25, 26, 27, 28, 29, 30, 31, 32, 33, 34, 35, 36, 37, 38, 39, 40, 41, 42, 43, 44, 45] (by decide) rfl
  have hKc := hK.sub (tys' := tV M) [1, 2, 3] rfl
  have hFc := va_free (wc := wV M Y G0 S) hD hS hA [1, 2, 3, 4, 5, 6, 7, 8, 9, 10, 11, 12, 13, 14, 15, 16, 17, 18, 19, 20, 21, 22, 23, 24, 25, 26, 27, 28, 29, 30, 31, 32, 33, 34, 35, 36, 37, 38, 39, 40, 41, 42, 43, 44, 45] rfl
  obtain ⟨k0, hk0, -⟩ := classAt_of (hts _ (u_Lq_Vt _ k_Vt_115))
  refine x_catV (n := 1) (As := [.int p0]) (rest := [.int 0, .ref ou]) (b := M.o_Vt) (st0 := [.int p0, .ref M.o_Vt, .int 0, .ref ou]) ⟨hx, hb, hml, hown, hts⟩ (lt_Vt_write_1 l hfl dC dI X _ h) (cwV 1 hts (gwV good_Lq (u_Lq_La _ k_La_55) (u_Lq_Vt _ k_Vt_176) (u_Lq_Vt _ k_Vt_177) (u_Lq_Vt _ k_Vt_0) (wcs (u_Lq_Vt _ k_Vt_178) u_Lq_Vq)) rfl rfl rfl (by decide +kernel) ⟨Nat.le_of_ble_eq_true rfl, Nat.le_of_ble_eq_true rfl⟩) (pv_ofE (X.same _) (fun U z1 z2 => X.mono _ _ U hFc (hEw _ _ hS U z1 z2)) hPc hKc hDc (va_recv hKc hPc (ci := 11) (q0 := 0) rfl rfl)) rfl hl.1 rfl (Nat.le_of_ble_eq_true rfl) d_La_write_4 ⟨Nat.le_of_eq (Nat.zero_add _), Nat.le_of_eq (Nat.zero_add _)⟩ (E0 := "java/lang/IllegalStateException") (fun E st t z => z.1) ⟨k0, hk0⟩ (x := ⟨0, 9, 12, 19⟩) (pre := []) (nm := "java/lang/IllegalStateException") (cn := k0) htab (fun k1 z9 z hz => absurd hz List.not_mem_nil) rfl (by decide) (hts _ (u_Lq_La _ k_La_24)) hk0 (fun k1 z9 => by rw [hk0] at z9; cases z9; exact x_refl _ _) (fun qx st t L z1 z2 z3 z4 z5 => ?_)
  have hS := x_catS hS z1 z3.2.1 hFc z5
  obtain ⟨Y1, hP1, -, hD1⟩ := z3.2.2
  obtain ⟨hP, hD⟩ := va_join (wr := [(ou, .inl (kL, 1, .inr (.inl oo)))]) (w1 := wV M Y1 G' S') hP hD [1, 2, 3, 4, 5, 6, 7, 8, 9, 10, 11, 12, 13, 14, 15, 16, 17, 18, 19, 20, 21, 22, 23, 24, 25, 26, 27, 28, 29, 30, 31, 32, 33, 34, 35, 36, 37, 38, 39, 40, 41, 42, 43, 44, 45] [0] rfl rfl (by decide) (by decide) (fun q a b => by have z := z3.2.1.2 q (by rw [z1]; exact a) b; rw [z1] at z; exact z) hFc hP1 hD1
  have hP : va_P (dC, dI) classes ((ou, .inl (kL, 1, .inr (.inl oo))) :: wV M Y1 G' S') t.heap := hP
  have hD : va_D A ((ou, .inl (kL, 1, .inr (.inl oo))) :: wV M Y1 G' S') := hD
  generalize t.heap = H at hP hS ⊢
  show W _ _ _ _ _ _ _ _ _ _ _ _ _ _ _ (F0 m 12 ls [.ref qx])
  refine W.widen (k := G'.gc - G0.gc) (n := G'.gs - G0.gs) (Nat.le_of_eq (Nat.zero_add _)) (Nat.le_of_eq (Nat.zero_add _)) ?_
  refine lv_astore_n (lv' := [(3, .ref qx), (0, .ref M.o_Vt), (1, .int p0), (2, .ref ou)]) hx hb d_La_write_12 rfl hl (by decide) rfl (fun ls hl => ?_)
  refine lv_iconst (v := 1) hx hb d_La_write_13 (by decide) ?_
  exact W.iret (v := 1) hx hb hr (fun t ht hW => ⟨⟨1, Y1, rfl, rfl, by rw [ht]; exact hP, va_K.moved hW.alike hK, hD⟩, hS.F ht⟩) hS.2.2 d_La_write_14
set_option maxHeartbeats 4000000 in
set_option maxRecDepth 100000 in
theorem la_write_2 (l : Launch) (hfl : l.flags = pinnedFlags ++ [noTraceFlag]) (dC : Nat → ClassId) (dI : Nat → Nat → Nat) {K : Nat} {M : CA} {E : (Nat → Prop) → State → Prop} (X : ly_X l dC dI K M E) (Xm : lz_miss E) (sz : Nat) {Y : CT} {G0 G' : CG} {S S' : CS} (ou : Nat) (kL : ClassId) (oo : Nat → Int64) {p0 : Int32} (h : f_Vt_write K G0 S p0 = some (.error 2, G', S')) : Met l y_La_write (.codeWith y_La_write b_La_write 4 (some .int) [(0, 9, 12, 19), (0, 9, 15, 25), (0, 9, 18, 13), (0, 9, 21, 46)] :: V_Lq) ({ frames := 9, cells := G'.gc - G0.gc, slots := G'.gs - G0.gs, locals := 250 }) (va_Pc [.ref M.o_Vt, .int p0, .ref ou] (fun U => U.heap.size = sz ∧ at_ (dC, dI) (fun _ => True) ((ou, .inl (kL, 1, .inr (.inl oo))) :: wV M Y G0 S) ((kL, .long) :: tV M) U ∧ E (va_A ((ou, .inl (kL, 1, .inr (.inl oo))) :: wV M Y G0 S) sz) U)) (va_Qi (fun (r_ : Int32) (u : CT) => r_ = 2) (fun (u : CT) t => at_ (dC, dI) (va_A ((ou, .inl (kL, 1, .inr (.inl oo))) :: wV M Y G0 S) sz) ((ou, .inl (kL, 1, .inr (.inl oo))) :: wV M u G' S') ((kL, .long) :: tV M) t) (va_A ((ou, .inl (kL, 1, .inr (.inl oo))) :: wV M Y G0 S) sz)) (G'.gc - G0.gc) (G'.gs - G0.gs) (va_A ((ou, .inl (kL, 1, .inr (.inl oo))) :: wV M Y G0 S) sz) := by
  refine MetW.ofW (handlers := [(0, 9, 12, 19), (0, 9, 15, 25), (0, 9, 18, 13), (0, 9, 21, 46)]) (cc := b_La_write) (maxL := 4) (ret := (some .int)) (by decide) rfl ?_
  intro p e s m args below meth c s₁ B hml htab hv
  obtain ⟨rfl, hsz, ⟨hP, hK, hD0⟩, hE⟩ := hv
  have hx := B.exec
  have hb := B.bytes
  have hr := B.returns
  have hlocks := B.notSynchronized
  have hts0 := atoms_spec (ws := .codeWith y_La_write b_La_write 4 (some .int) [(0, 9, 12, 19), (0, 9, 15, 25), (0, 9, 18, 13), (0, 9, 21, 46)] :: V_Lq) B.pre
  have hts : ∀ w ∈ V_Lq, w.before ([.ref M.o_Vt, .int p0, .ref ou] : List Value).toArray s = true := fun w h => hts0 w (List.mem_cons_of_mem _ h)
  have hown : s.vm.findClass R_La = some m.cls := findClass_of_methodNamed B.named
  subst hsz
  have hD := hD0.self (sz := s.heap.size)
  generalize hAe : va_A ((ou, .inl (kL, 1, .inr (.inl oo))) :: wV M Y G0 S) s.heap.size = A at hD hE ⊢
  have hA : ∀ q : Nat, s.heap.size ≤ q → A q := fun q h => by rw [← hAe]; exact Or.inr h
  have hS : va_S A s.heap s.heap [] := va_S.rf
  have hP : va_P (dC, dI) classes ((ou, .inl (kL, 1, .inr (.inl oo))) :: wV M Y G0 S) s.heap := hP
  have hK : va_K (dC, dI) classes ((kL, .long) :: tV M) s := hK
  have hEw : ∀ (H : Heap) (locs : List Loc), va_S A s.heap H locs → ∀ U : State, U.heap = H → s.WarmedH U.vm → E A U := fun H locs hS U hU hW => X.kept A s U H locs hE hS hU hW
  have hl := lv_entry ([.ref M.o_Vt, .int p0, .ref ou]) (n := 4) (Nat.le_of_ble_eq_true rfl)
  rw [lg_entry_eq]
  generalize (lg_sl ([.ref M.o_Vt, .int p0, .ref ou]) ++ List.replicate (4 - (lg_sl ([.ref M.o_Vt, .int p0, .ref ou])).length) Slot.unset).toArray = ls at hl ⊢
  have hl : lv_has ls 4 [(0, .ref M.o_Vt), (1, .int p0), (2, .ref ou)] := hl
  refine lv_aload_n hx hb d_La_write_0 rfl (lv_at hl 2 rfl) ?_
  refine lv_iconst (v := 0) hx hb d_La_write_1 (by decide) ?_
  refine lv_aload_n hx hb d_La_write_2 rfl (lv_at hl 0 rfl) ?_
  refine lv_iload_n hx hb d_La_write_3 rfl (lv_at hl 1 rfl) ?_
  have hPc := hP.sub (ws' := wV M Y G0 S) [1, 2, 3, 4, 5, 6, 7, 8, 9, 10, 11, 12, 13, 14, 15, 16, 17, 18, 19, 20, 21, 22, 23, 24, 25, 26, 27, 28, 29, 30, 31, 32, 33, 34, 35, 36, 37, 38, 39, 40, 41, 42, 43, 44, 45] rfl
  have hDc := hD.sub (ws' := wV M Y G0 S) [1, 2, 3, 4, 5, 6, 7, 8, 9, 10, 11, 12, 13, 14, 15, 16, 17, 18, 19, 20, 21, 22, 23, 24, 25, 26, 27, 28, 29, 30, 31, 32, 33, 34, 35, 36, 37, 38, 39, 40, 41, 42, 43, 44, 45] (by decide) rfl
  have hKc := hK.sub (tys' := tV M) [1, 2, 3] rfl
  have hFc := va_free (wc := wV M Y G0 S) hD hS hA [1, 2, 3, 4, 5, 6, 7, 8, 9, 10, 11, 12, 13, 14, 15, 16, 17, 18, 19, 20, 21, 22, 23, 24, 25, 26, 27, 28, 29, 30, 31, 32, 33, 34, 35, 36, 37, 38, 39, 40, 41, 42, 43, 44, 45] rfl
  obtain ⟨k0, hk0, -⟩ := classAt_of (hts _ (u_Lq_Vt _ k_Vt_126))
  obtain ⟨j0, hj0, -⟩ := classAt_of (hts _ (u_Lq_Vt _ k_Vt_115))
  have hmiss : ∀ k1, s.vm.findClass "java/lang/IndexOutOfBoundsException" = some k1 → ∀ z ∈ ([⟨0, 9, 12, 19⟩] : List ExceptionTableEntry), x_miss R_La ([.ref M.o_Vt, .int p0, .ref ou] : List Value).toArray s k1 4 z := by
    intro k1 z9 z hz
    simp only [List.mem_cons, List.not_mem_nil, or_false] at hz
    subst hz
    exact ⟨by decide, by decide, "java/lang/IllegalStateException", j0, hts _ (u_Lq_La _ k_La_24), hj0, Xm A s hE "java/lang/IndexOutOfBoundsException" "java/lang/IllegalStateException" (by decide) k1 j0 z9 hj0⟩
  refine x_catV (n := 1) (As := [.int p0]) (rest := [.int 0, .ref ou]) (b := M.o_Vt) (st0 := [.int p0, .ref M.o_Vt, .int 0, .ref ou]) ⟨hx, hb, hml, hown, hts⟩ (lt_Vt_write_2 l hfl dC dI X _ h) (cwV 1 hts (gwV good_Lq (u_Lq_La _ k_La_55) (u_Lq_Vt _ k_Vt_176) (u_Lq_Vt _ k_Vt_177) (u_Lq_Vt _ k_Vt_0) (wcs (u_Lq_Vt _ k_Vt_178) u_Lq_Vq)) rfl rfl rfl (by decide +kernel) ⟨Nat.le_of_ble_eq_true rfl, Nat.le_of_ble_eq_true rfl⟩) (pv_ofE (X.same _) (fun U z1 z2 => X.mono _ _ U hFc (hEw _ _ hS U z1 z2)) hPc hKc hDc (va_recv hKc hPc (ci := 11) (q0 := 0) rfl rfl)) rfl hl.1 rfl (Nat.le_of_ble_eq_true rfl) d_La_write_4 ⟨Nat.le_of_eq (Nat.zero_add _), Nat.le_of_eq (Nat.zero_add _)⟩ (E0 := "java/lang/IndexOutOfBoundsException") (fun E st t z => z.1) ⟨k0, hk0⟩ (x := ⟨0, 9, 15, 25⟩) (pre := [⟨0, 9, 12, 19⟩]) (nm := "java/lang/IndexOutOfBoundsException") (cn := k0) htab hmiss rfl (by decide) (hts _ (u_Lq_La _ k_La_29)) hk0 (fun k1 z9 => by rw [hk0] at z9; cases z9; exact x_refl _ _) (fun qx st t L z1 z2 z3 z4 z5 => ?_)
  have hS := x_catS hS z1 z3.2.1 hFc z5
  obtain ⟨Y1, hP1, -, hD1⟩ := z3.2.2
  obtain ⟨hP, hD⟩ := va_join (wr := [(ou, .inl (kL, 1, .inr (.inl oo)))]) (w1 := wV M Y1 G' S') hP hD [1, 2, 3, 4, 5, 6, 7, 8, 9, 10, 11, 12, 13, 14, 15, 16, 17, 18, 19, 20, 21, 22, 23, 24, 25, 26, 27, 28, 29, 30, 31, 32, 33, 34, 35, 36, 37, 38, 39, 40, 41, 42, 43, 44, 45] [0] rfl rfl (by decide) (by decide) (fun q a b => by have z := z3.2.1.2 q (by rw [z1]; exact a) b; rw [z1] at z; exact z) hFc hP1 hD1
  have hP : va_P (dC, dI) classes ((ou, .inl (kL, 1, .inr (.inl oo))) :: wV M Y1 G' S') t.heap := hP
  have hD : va_D A ((ou, .inl (kL, 1, .inr (.inl oo))) :: wV M Y1 G' S') := hD
  generalize t.heap = H at hP hS ⊢
  show W _ _ _ _ _ _ _ _ _ _ _ _ _ _ _ (F0 m 15 ls [.ref qx])
  refine W.widen (k := G'.gc - G0.gc) (n := G'.gs - G0.gs) (Nat.le_of_eq (Nat.zero_add _)) (Nat.le_of_eq (Nat.zero_add _)) ?_
  refine lv_astore_n (lv' := [(3, .ref qx), (0, .ref M.o_Vt), (1, .int p0), (2, .ref ou)]) hx hb d_La_write_15 rfl hl (by decide) rfl (fun ls hl => ?_)
  refine lv_iconst (v := 2) hx hb d_La_write_16 (by decide) ?_
  exact W.iret (v := 2) hx hb hr (fun t ht hW => ⟨⟨2, Y1, rfl, rfl, by rw [ht]; exact hP, va_K.moved hW.alike hK, hD⟩, hS.F ht⟩) hS.2.2 d_La_write_17
set_option maxHeartbeats 4000000 in
set_option maxRecDepth 100000 in
theorem la_write_3 (l : Launch) (hfl : l.flags = pinnedFlags ++ [noTraceFlag]) (dC : Nat → ClassId) (dI : Nat → Nat → Nat) {K : Nat} {M : CA} {E : (Nat → Prop) → State → Prop} (X : ly_X l dC dI K M E) (Xm : lz_miss E) (sz : Nat) {Y : CT} {G0 G' : CG} {S S' : CS} (ou : Nat) (kL : ClassId) (oo : Nat → Int64) {p0 : Int32} (h : f_Vt_write K G0 S p0 = some (.error 3, G', S')) : Met l y_La_write (.codeWith y_La_write b_La_write 4 (some .int) [(0, 9, 12, 19), (0, 9, 15, 25), (0, 9, 18, 13), (0, 9, 21, 46)] :: V_Lq) ({ frames := 9, cells := G'.gc - G0.gc, slots := G'.gs - G0.gs, locals := 250 }) (va_Pc [.ref M.o_Vt, .int p0, .ref ou] (fun U => U.heap.size = sz ∧ at_ (dC, dI) (fun _ => True) ((ou, .inl (kL, 1, .inr (.inl oo))) :: wV M Y G0 S) ((kL, .long) :: tV M) U ∧ E (va_A ((ou, .inl (kL, 1, .inr (.inl oo))) :: wV M Y G0 S) sz) U)) (va_Qi (fun (r_ : Int32) (u : CT) => r_ = 4) (fun (u : CT) t => at_ (dC, dI) (va_A ((ou, .inl (kL, 1, .inr (.inl oo))) :: wV M Y G0 S) sz) ((ou, .inl (kL, 1, .inr (.inl oo))) :: wV M u G' S') ((kL, .long) :: tV M) t) (va_A ((ou, .inl (kL, 1, .inr (.inl oo))) :: wV M Y G0 S) sz)) (G'.gc - G0.gc) (G'.gs - G0.gs) (va_A ((ou, .inl (kL, 1, .inr (.inl oo))) :: wV M Y G0 S) sz) := by
  refine MetW.ofW (handlers := [(0, 9, 12, 19), (0, 9, 15, 25), (0, 9, 18, 13), (0, 9, 21, 46)]) (cc := b_La_write) (maxL := 4) (ret := (some .int)) (by decide) rfl ?_
  intro p e s m args below meth c s₁ B hml htab hv
  obtain ⟨rfl, hsz, ⟨hP, hK, hD0⟩, hE⟩ := hv
  have hx := B.exec
  have hb := B.bytes
  have hr := B.returns
  have hlocks := B.notSynchronized
  have hts0 := atoms_spec (ws := .codeWith y_La_write b_La_write 4 (some .int) [(0, 9, 12, 19), (0, 9, 15, 25), (0, 9, 18, 13), (0, 9, 21, 46)] :: V_Lq) B.pre
  have hts : ∀ w ∈ V_Lq, w.before ([.ref M.o_Vt, .int p0, .ref ou] : List Value).toArray s = true := fun w h => hts0 w (List.mem_cons_of_mem _ h)
  have hown : s.vm.findClass R_La = some m.cls := findClass_of_methodNamed B.named
  subst hsz
  have hD := hD0.self (sz := s.heap.size)
  generalize hAe : va_A ((ou, .inl (kL, 1, .inr (.inl oo))) :: wV M Y G0 S) s.heap.size = A at hD hE ⊢
  have hA : ∀ q : Nat, s.heap.size ≤ q → A q := fun q h => by rw [← hAe]; exact Or.inr h
  have hS : va_S A s.heap s.heap [] := va_S.rf
  have hP : va_P (dC, dI) classes ((ou, .inl (kL, 1, .inr (.inl oo))) :: wV M Y G0 S) s.heap := hP
  have hK : va_K (dC, dI) classes ((kL, .long) :: tV M) s := hK
  have hEw : ∀ (H : Heap) (locs : List Loc), va_S A s.heap H locs → ∀ U : State, U.heap = H → s.WarmedH U.vm → E A U := fun H locs hS U hU hW => X.kept A s U H locs hE hS hU hW
  have hl := lv_entry ([.ref M.o_Vt, .int p0, .ref ou]) (n := 4) (Nat.le_of_ble_eq_true rfl)
  rw [lg_entry_eq]
  generalize (lg_sl ([.ref M.o_Vt, .int p0, .ref ou]) ++ List.replicate (4 - (lg_sl ([.ref M.o_Vt, .int p0, .ref ou])).length) Slot.unset).toArray = ls at hl ⊢
  have hl : lv_has ls 4 [(0, .ref M.o_Vt), (1, .int p0), (2, .ref ou)] := hl
  refine lv_aload_n hx hb d_La_write_0 rfl (lv_at hl 2 rfl) ?_
  refine lv_iconst (v := 0) hx hb d_La_write_1 (by decide) ?_
  refine lv_aload_n hx hb d_La_write_2 rfl (lv_at hl 0 rfl) ?_
  refine lv_iload_n hx hb d_La_write_3 rfl (lv_at hl 1 rfl) ?_
  have hPc := hP.sub (ws' := wV M Y G0 S) [1, 2, 3, 4, 5, 6, 7, 8, 9, 10, 11, 12, 13, 14, 15, 16, 17, 18, 19, 20, 21, 22, 23, 24, 25, 26, 27, 28, 29, 30, 31, 32, 33, 34, 35, 36, 37, 38, 39, 40, 41, 42, 43, 44, 45] rfl
  have hDc := hD.sub (ws' := wV M Y G0 S) [1, 2, 3, 4, 5, 6, 7, 8, 9, 10, 11, 12, 13, 14, 15, 16, 17, 18, 19, 20, 21, 22, 23, 24, 25, 26, 27, 28, 29, 30, 31, 32, 33, 34, 35, 36, 37, 38, 39, 40, 41, 42, 43, 44, 45] (by decide) rfl
  have hKc := hK.sub (tys' := tV M) [1, 2, 3] rfl
  have hFc := va_free (wc := wV M Y G0 S) hD hS hA [1, 2, 3, 4, 5, 6, 7, 8, 9, 10, 11, 12, 13, 14, 15, 16, 17, 18, 19, 20, 21, 22, 23, 24, 25, 26, 27, 28, 29, 30, 31, 32, 33, 34, 35, 36, 37, 38, 39, 40, 41, 42, 43, 44, 45] rfl
  obtain ⟨k0, hk0, -⟩ := classAt_of (hts _ (u_Lq_Vt _ k_Vt_173))
  obtain ⟨j0, hj0, -⟩ := classAt_of (hts _ (u_Lq_Vt _ k_Vt_115))
  obtain ⟨j1, hj1, -⟩ := classAt_of (hts _ (u_Lq_Vt _ k_Vt_126))
  obtain ⟨j2, hj2, -⟩ := classAt_of (hts _ (u_Lq_Vt _ k_Vt_101))
  have hmiss : ∀ k1, s.vm.findClass "java/lang/UnsupportedOperationException" = some k1 → ∀ z ∈ ([⟨0, 9, 12, 19⟩, ⟨0, 9, 15, 25⟩, ⟨0, 9, 18, 13⟩] : List ExceptionTableEntry), x_miss R_La ([.ref M.o_Vt, .int p0, .ref ou] : List Value).toArray s k1 4 z := by
    intro k1 z9 z hz
    simp only [List.mem_cons, List.not_mem_nil, or_false] at hz
    rcases hz with rfl | rfl | rfl
    · exact ⟨by decide, by decide, "java/lang/IllegalStateException", j0, hts _ (u_Lq_La _ k_La_24), hj0, Xm A s hE "java/lang/UnsupportedOperationException" "java/lang/IllegalStateException" (by decide) k1 j0 z9 hj0⟩
    · exact ⟨by decide, by decide, "java/lang/IndexOutOfBoundsException", j1, hts _ (u_Lq_La _ k_La_29), hj1, Xm A s hE "java/lang/UnsupportedOperationException" "java/lang/IndexOutOfBoundsException" (by decide) k1 j1 z9 hj1⟩
    · exact ⟨by decide, by decide, "java/lang/IllegalArgumentException", j2, hts _ (u_Lq_La _ k_La_19), hj2, Xm A s hE "java/lang/UnsupportedOperationException" "java/lang/IllegalArgumentException" (by decide) k1 j2 z9 hj2⟩
  refine x_catV (n := 1) (As := [.int p0]) (rest := [.int 0, .ref ou]) (b := M.o_Vt) (st0 := [.int p0, .ref M.o_Vt, .int 0, .ref ou]) ⟨hx, hb, hml, hown, hts⟩ (lt_Vt_write_3 l hfl dC dI X _ h) (cwV 1 hts (gwV good_Lq (u_Lq_La _ k_La_55) (u_Lq_Vt _ k_Vt_176) (u_Lq_Vt _ k_Vt_177) (u_Lq_Vt _ k_Vt_0) (wcs (u_Lq_Vt _ k_Vt_178) u_Lq_Vq)) rfl rfl rfl (by decide +kernel) ⟨Nat.le_of_ble_eq_true rfl, Nat.le_of_ble_eq_true rfl⟩) (pv_ofE (X.same _) (fun U z1 z2 => X.mono _ _ U hFc (hEw _ _ hS U z1 z2)) hPc hKc hDc (va_recv hKc hPc (ci := 11) (q0 := 0) rfl rfl)) rfl hl.1 rfl (Nat.le_of_ble_eq_true rfl) d_La_write_4 ⟨Nat.le_of_eq (Nat.zero_add _), Nat.le_of_eq (Nat.zero_add _)⟩ (E0 := "java/lang/UnsupportedOperationException") (fun E st t z => z.1) ⟨k0, hk0⟩ (x := ⟨0, 9, 21, 46⟩) (pre := [⟨0, 9, 12, 19⟩, ⟨0, 9, 15, 25⟩, ⟨0, 9, 18, 13⟩]) (nm := "java/lang/UnsupportedOperationException") (cn := k0) htab hmiss rfl (by decide) (hts _ (u_Lq_La _ k_La_50)) hk0 (fun k1 z9 => by rw [hk0] at z9; cases z9; exact x_refl _ _) (fun qx st t L z1 z2 z3 z4 z5 => ?_)
  have hS := x_catS hS z1 z3.2.1 hFc z5
  obtain ⟨Y1, hP1, -, hD1⟩ := z3.2.2
  obtain ⟨hP, hD⟩ := va_join (wr := [(ou, .inl (kL, 1, .inr (.inl oo)))]) (w1 := wV M Y1 G' S') hP hD [1, 2, 3, 4, 5, 6, 7, 8, 9, 10, 11, 12, 13, 14, 15, 16, 17, 18, 19, 20, 21, 22, 23, 24, 25, 26, 27, 28, 29, 30, 31, 32, 33, 34, 35, 36, 37, 38, 39, 40, 41, 42, 43, 44, 45] [0] rfl rfl (by decide) (by decide) (fun q a b => by have z := z3.2.1.2 q (by rw [z1]; exact a) b; rw [z1] at z; exact z) hFc hP1 hD1
  have hP : va_P (dC, dI) classes ((ou, .inl (kL, 1, .inr (.inl oo))) :: wV M Y1 G' S') t.heap := hP
  have hD : va_D A ((ou, .inl (kL, 1, .inr (.inl oo))) :: wV M Y1 G' S') := hD
  generalize t.heap = H at hP hS ⊢
  show W _ _ _ _ _ _ _ _ _ _ _ _ _ _ _ (F0 m 21 ls [.ref qx])
  refine W.widen (k := G'.gc - G0.gc) (n := G'.gs - G0.gs) (Nat.le_of_eq (Nat.zero_add _)) (Nat.le_of_eq (Nat.zero_add _)) ?_
  refine lv_astore_n (lv' := [(3, .ref qx), (0, .ref M.o_Vt), (1, .int p0), (2, .ref ou)]) hx hb d_La_write_21 rfl hl (by decide) rfl (fun ls hl => ?_)
  refine lv_iconst (v := 4) hx hb d_La_write_22 (by decide) ?_
  exact W.iret (v := 4) hx hb hr (fun t ht hW => ⟨⟨4, Y1, rfl, rfl, by rw [ht]; exact hP, va_K.moved hW.alike hK, hD⟩, hS.F ht⟩) hS.2.2 d_La_write_23
set_option maxHeartbeats 4000000 in
set_option maxRecDepth 100000 in
theorem la_grow_ok (l : Launch) (hfl : l.flags = pinnedFlags ++ [noTraceFlag]) (dC : Nat → ClassId) (dI : Nat → Nat → Nat) {K : Nat} {M : CA} {E : (Nat → Prop) → State → Prop} (X : ly_X l dC dI K M E) (sz : Nat) {Y : CT} {G0 G' : CG} {S S' : CS} (ou : Nat) (kL : ClassId) (oo : Nat → Int64) {p0 : Int32} {p1 : Int32} {p2 : Int32} {r : Int32} (h : f_Vt_grow K G0 S p0 p1 p2 = some (.ok r, G', S')) : Met l y_La_grow (.codeWith y_La_grow b_La_grow 6 (some .int) [(0, 12, 15, 19), (0, 12, 19, 25), (0, 12, 23, 13), (0, 12, 27, 46)] :: V_Lq) ({ frames := 9, cells := G'.gc - G0.gc, slots := G'.gs - G0.gs, locals := 251 }) (va_Pc [.ref M.o_Vt, .int p0, .int p1, .int p2, .ref ou] (fun U => U.heap.size = sz ∧ at_ (dC, dI) (fun _ => True) ((ou, .inl (kL, 1, .inr (.inl oo))) :: wV M Y G0 S) ((kL, .long) :: tV M) U ∧ E (va_A ((ou, .inl (kL, 1, .inr (.inl oo))) :: wV M Y G0 S) sz) U)) (va_Qi (fun (r_ : Int32) (u : CT) => r_ = 0) (fun (u : CT) t => at_ (dC, dI) (va_A ((ou, .inl (kL, 1, .inr (.inl oo))) :: wV M Y G0 S) sz) ((ou, .inl (kL, 1, .inr (.inl (vp_updL oo (0 : Int32).toNatClampNeg r.toInt64)))) :: wV M u G' S') ((kL, .long) :: tV M) t) (va_A ((ou, .inl (kL, 1, .inr (.inl oo))) :: wV M Y G0 S) sz)) (G'.gc - G0.gc) (G'.gs - G0.gs) (va_A ((ou, .inl (kL, 1, .inr (.inl oo))) :: wV M Y G0 S) sz) := by
  refine MetW.ofW (handlers := [(0, 12, 15, 19), (0, 12, 19, 25), (0, 12, 23, 13), (0, 12, 27, 46)]) (cc := b_La_grow) (maxL := 6) (ret := (some .int)) (by decide) rfl ?_
  intro p e s m args below meth c s₁ B hml htab hv
  obtain ⟨rfl, hsz, ⟨hP, hK, hD0⟩, hE⟩ := hv
  have hx := B.exec
  have hb := B.bytes
  have hr := B.returns
  have hlocks := B.notSynchronized
  have hts0 := atoms_spec (ws := .codeWith y_La_grow b_La_grow 6 (some .int) [(0, 12, 15, 19), (0, 12, 19, 25), (0, 12, 23, 13), (0, 12, 27, 46)] :: V_Lq) B.pre
  have hts : ∀ w ∈ V_Lq, w.before ([.ref M.o_Vt, .int p0, .int p1, .int p2, .ref ou] : List Value).toArray s = true := fun w h => hts0 w (List.mem_cons_of_mem _ h)
  have hown : s.vm.findClass R_La = some m.cls := findClass_of_methodNamed B.named
  subst hsz
  have hD := hD0.self (sz := s.heap.size)
  generalize hAe : va_A ((ou, .inl (kL, 1, .inr (.inl oo))) :: wV M Y G0 S) s.heap.size = A at hD hE ⊢
  have hA : ∀ q : Nat, s.heap.size ≤ q → A q := fun q h => by rw [← hAe]; exact Or.inr h
  have hS : va_S A s.heap s.heap [] := va_S.rf
  have hP : va_P (dC, dI) classes ((ou, .inl (kL, 1, .inr (.inl oo))) :: wV M Y G0 S) s.heap := hP
  have hK : va_K (dC, dI) classes ((kL, .long) :: tV M) s := hK
  have hEw : ∀ (H : Heap) (locs : List Loc), va_S A s.heap H locs → ∀ U : State, U.heap = H → s.WarmedH U.vm → E A U := fun H locs hS U hU hW => X.kept A s U H locs hE hS hU hW
  have hl := lv_entry ([.ref M.o_Vt, .int p0, .int p1, .int p2, .ref ou]) (n := 6) (Nat.le_of_ble_eq_true rfl)
  rw [lg_entry_eq]
  generalize (lg_sl ([.ref M.o_Vt, .int p0, .int p1, .int p2, .ref ou]) ++ List.replicate (6 - (lg_sl ([.ref M.o_Vt, .int p0, .int p1, .int p2, .ref ou])).length) Slot.unset).toArray = ls at hl ⊢
  have hl : lv_has ls 6 [(0, .ref M.o_Vt), (1, .int p0), (2, .int p1), (3, .int p2), (4, .ref ou)] := hl
  refine lv_aload hx hb d_La_grow_0 (lv_at hl 4 rfl) ?_
  refine lv_iconst (v := 0) hx hb d_La_grow_2 (by decide) ?_
  refine lv_aload_n hx hb d_La_grow_3 rfl (lv_at hl 0 rfl) ?_
  refine lv_iload_n hx hb d_La_grow_4 rfl (lv_at hl 1 rfl) ?_
  refine lv_iload_n hx hb d_La_grow_5 rfl (lv_at hl 2 rfl) ?_
  refine lv_iload_n hx hb d_La_grow_6 rfl (lv_at hl 3 rfl) ?_
  have hPc := hP.sub (ws' := wV M Y G0 S) [1, 2, 3, 4, 5, 6, 7, 8, 9, 10, 11, 12, 13, 14, 15, 16, 17, 18, 19, 20, 21, 22, 23, 24, 25, 26, 27, 28, 29, 30, 31, 32, 33, 34, 35, 36, 37, 38, 39, 40, 41, 42, 43, 44, 45] rfl
  have hDc := hD.sub (ws' := wV M Y G0 S) [1, 2, 3, 4, 5, 6, 7, 8, 9, 10, 11, 12, 13, 14, 15, 16, 17, 18, 19, 20, 21, 22, 23, 24, 25, 26, 27, 28, 29, 30, 31, 32, 33, 34, 35, 36, 37, 38, 39, 40, 41, 42, 43, 44, 45] (by decide) rfl
  have hKc := hK.sub (tys' := tV M) [1, 2, 3] rfl
  have hFc := va_free (wc := wV M Y G0 S) hD hS hA [1, 2, 3, 4, 5, 6, 7, 8, 9, 10, 11, 12, 13, 14, 15, 16, 17, 18, 19, 20, 21, 22, 23, 24, 25, 26, 27, 28, 29, 30, 31, 32, 33, 34, 35, 36, 37, 38, 39, 40, 41, 42, 43, 44, 45] rfl
  refine va_calli (va_runV (As := [.int p0, .int p1, .int p2]) (rest := [.int 0, .ref ou]) ⟨hx, hb, hml, hown, hts⟩ (l_Vt_grow l dC dI X _ h) (cwV 3 hts (gwV good_Lq (u_Lq_La _ k_La_59) (u_Lq_Vt _ k_Vt_190) (u_Lq_Vt _ k_Vt_191) (u_Lq_Vt _ k_Vt_0) (wcs (u_Lq_Vt _ k_Vt_192) u_Lq_Vq)) rfl rfl rfl (by decide +kernel) ⟨Nat.le_of_ble_eq_true rfl, Nat.le_of_ble_eq_true rfl⟩) (pv_ofE (X.same _) (fun U z1 z2 => X.mono _ _ U hFc (hEw _ _ hS U z1 z2)) hPc hKc hDc (va_recv hKc hPc (ci := 11) (q0 := 0) rfl rfl)) rfl rfl hl.1 rfl (lv_room (Nat.le_of_ble_eq_true rfl)) d_La_grow_7 ⟨Nat.le_of_eq (Nat.zero_add _), Nat.le_of_eq (Nat.zero_add _)⟩) hS (fun q _ h => hFc q h) hFc (fun r_ Y1 t H locs ht hvm hw hB hz1 hk1 hS => ?_)
  rw [hw]
  obtain ⟨hP1, -, hD1⟩ := hB
  rw [ht] at hP1
  obtain ⟨hP, hD⟩ := va_join (wr := [(ou, .inl (kL, 1, .inr (.inl oo)))]) (w1 := wV M Y1 G' S') hP hD [1, 2, 3, 4, 5, 6, 7, 8, 9, 10, 11, 12, 13, 14, 15, 16, 17, 18, 19, 20, 21, 22, 23, 24, 25, 26, 27, 28, 29, 30, 31, 32, 33, 34, 35, 36, 37, 38, 39, 40, 41, 42, 43, 44, 45] [0] rfl rfl (by decide) (by decide) hk1 hFc hP1 hD1
  refine W.widen (k := G'.gc - G0.gc) (n := G'.gs - G0.gs) (Nat.le_of_eq (Nat.zero_add _)) (Nat.le_of_eq (Nat.zero_add _)) ?_
  have hP : va_P (dC, dI) classes ((ou, .inl (kL, 1, .inr (.inl oo))) :: wV M Y1 G' S') H := hP
  have hD : va_D A ((ou, .inl (kL, 1, .inr (.inl oo))) :: wV M Y1 G' S') := hD
  refine lv_i2l hx hb d_La_grow_10 rfl ?_
  refine va_last hx hb hK hP hD hS 0 0 rfl rfl (by unfold vp_in; decide) d_La_grow_11 (fun H locs hP hD hS => ?_)
  refine lv_goto (tgt := 31) hx hb d_La_grow_12 (by decide) ?_
  refine lv_iconst (v := 0) hx hb d_La_grow_31 (by decide) ?_
  exact W.iret (v := 0) hx hb hr (fun t ht hW => ⟨⟨0, Y1, rfl, rfl, by rw [ht]; exact hP, va_K.moved hW.alike hK, hD⟩, hS.F ht⟩) hS.2.2 d_La_grow_32
set_option maxHeartbeats 4000000 in
set_option maxRecDepth 100000 in
theorem la_grow_0 (l : Launch) (hfl : l.flags = pinnedFlags ++ [noTraceFlag]) (dC : Nat → ClassId) (dI : Nat → Nat → Nat) {K : Nat} {M : CA} {E : (Nat → Prop) → State → Prop} (X : ly_X l dC dI K M E) (Xm : lz_miss E) (sz : Nat) {Y : CT} {G0 G' : CG} {S S' : CS} (ou : Nat) (kL : ClassId) (oo : Nat → Int64) {p0 : Int32} {p1 : Int32} {p2 : Int32} (h : f_Vt_grow K G0 S p0 p1 p2 = some (.error 0, G', S')) : Met l y_La_grow (.codeWith y_La_grow b_La_grow 6 (some .int) [(0, 12, 15, 19), (0, 12, 19, 25), (0, 12, 23, 13), (0, 12, 27, 46)] :: V_Lq) ({ frames := 9, cells := G'.gc - G0.gc, slots := G'.gs - G0.gs, locals := 251 }) (va_Pc [.ref M.o_Vt, .int p0, .int p1, .int p2, .ref ou] (fun U => U.heap.size = sz ∧ at_ (dC, dI) (fun _ => True) ((ou, .inl (kL, 1, .inr (.inl oo))) :: wV M Y G0 S) ((kL, .long) :: tV M) U ∧ E (va_A ((ou, .inl (kL, 1, .inr (.inl oo))) :: wV M Y G0 S) sz) U)) (va_Qi (fun (r_ : Int32) (u : CT) => r_ = 3) (fun (u : CT) t => at_ (dC, dI) (va_A ((ou, .inl (kL, 1, .inr (.inl oo))) :: wV M Y G0 S) sz) ((ou, .inl (kL, 1, .inr (.inl oo))) :: wV M u G' S') ((kL, .long) :: tV M) t) (va_A ((ou, .inl (kL, 1, .inr (.inl oo))) :: wV M Y G0 S) sz)) (G'.gc - G0.gc) (G'.gs - G0.gs) (va_A ((ou, .inl (kL, 1, .inr (.inl oo))) :: wV M Y G0 S) sz) := by
  refine MetW.ofW (handlers := [(0, 12, 15, 19), (0, 12, 19, 25), (0, 12, 23, 13), (0, 12, 27, 46)]) (cc := b_La_grow) (maxL := 6) (ret := (some .int)) (by decide) rfl ?_
  intro p e s m args below meth c s₁ B hml htab hv
  obtain ⟨rfl, hsz, ⟨hP, hK, hD0⟩, hE⟩ := hv
  have hx := B.exec
  have hb := B.bytes
  have hr := B.returns
  have hlocks := B.notSynchronized
  have hts0 := atoms_spec (ws := .codeWith y_La_grow b_La_grow 6 (some .int) [(0, 12, 15, 19), (0, 12, 19, 25), (0, 12, 23, 13), (0, 12, 27, 46)] :: V_Lq) B.pre
  have hts : ∀ w ∈ V_Lq, w.before ([.ref M.o_Vt, .int p0, .int p1, .int p2, .ref ou] : List Value).toArray s = true := fun w h => hts0 w (List.mem_cons_of_mem _ h)
  have hown : s.vm.findClass R_La = some m.cls := findClass_of_methodNamed B.named
  subst hsz
  have hD := hD0.self (sz := s.heap.size)
  generalize hAe : va_A ((ou, .inl (kL, 1, .inr (.inl oo))) :: wV M Y G0 S) s.heap.size = A at hD hE ⊢
  have hA : ∀ q : Nat, s.heap.size ≤ q → A q := fun q h => by rw [← hAe]; exact Or.inr h
  have hS : va_S A s.heap s.heap [] := va_S.rf
  have hP : va_P (dC, dI) classes ((ou, .inl (kL, 1, .inr (.inl oo))) :: wV M Y G0 S) s.heap := hP
  have hK : va_K (dC, dI) classes ((kL, .long) :: tV M) s := hK
  have hEw : ∀ (H : Heap) (locs : List Loc), va_S A s.heap H locs → ∀ U : State, U.heap = H → s.WarmedH U.vm → E A U := fun H locs hS U hU hW => X.kept A s U H locs hE hS hU hW
  have hl := lv_entry ([.ref M.o_Vt, .int p0, .int p1, .int p2, .ref ou]) (n := 6) (Nat.le_of_ble_eq_true rfl)
  rw [lg_entry_eq]
  generalize (lg_sl ([.ref M.o_Vt, .int p0, .int p1, .int p2, .ref ou]) ++ List.replicate (6 - (lg_sl ([.ref M.o_Vt, .int p0, .int p1, .int p2, .ref ou])).length) Slot.unset).toArray = ls at hl ⊢
  have hl : lv_has ls 6 [(0, .ref M.o_Vt), (1, .int p0), (2, .int p1), (3, .int p2), (4, .ref ou)] := hl
  refine lv_aload hx hb d_La_grow_0 (lv_at hl 4 rfl) ?_
  refine lv_iconst (v := 0) hx hb d_La_grow_2 (by decide) ?_
  refine lv_aload_n hx hb d_La_grow_3 rfl (lv_at hl 0 rfl) ?_
  refine lv_iload_n hx hb d_La_grow_4 rfl (lv_at hl 1 rfl) ?_
  refine lv_iload_n hx hb d_La_grow_5 rfl (lv_at hl 2 rfl) ?_
  refine lv_iload_n hx hb d_La_grow_6 rfl (lv_at hl 3 rfl) ?_
  have hPc := hP.sub (ws' := wV M Y G0 S) [1, 2, 3, 4, 5, 6, 7, 8, 9, 10, 11, 12, 13, 14, 15, 16, 17, 18, 19, 20, 21, 22, 23, 24, 25, 26, 27, 28, 29, 30, 31, 32, 33, 34, 35, 36, 37, 38, 39, 40, 41, 42, 43, 44, 45] rfl
  have hDc := hD.sub (ws' := wV M Y G0 S) [1, 2, 3, 4, 5, 6, 7, 8, 9, 10, 11, 12, 13, 14, 15, 16, 17, 18, 19, 20, 21, 22, 23, 24, 25, 26, 27, 28, 29, 30, 31, 32, 33, 34, 35, 36, 37, 38, 39, 40, 41, 42, 43, 44, 45] (by decide) rfl
  have hKc := hK.sub (tys' := tV M) [1, 2, 3] rfl
  have hFc := va_free (wc := wV M Y G0 S) hD hS hA [1, 2, 3, 4, 5, 6, 7, 8, 9, 10, 11, 12, 13, 14, 15, 16, 17, 18, 19, 20, 21, 22, 23, 24, 25, 26, 27, 28, 29, 30, 31, 32, 33, 34, 35, 36, 37, 38, 39, 40, 41, 42, 43, 44, 45] rfl
  obtain ⟨k0, hk0, -⟩ := classAt_of (hts _ (u_Lq_Vt _ k_Vt_101))
  obtain ⟨j0, hj0, -⟩ := classAt_of (hts _ (u_Lq_Vt _ k_Vt_115))
  obtain ⟨j1, hj1, -⟩ := classAt_of (hts _ (u_Lq_Vt _ k_Vt_126))
  have hmiss : ∀ k1, s.vm.findClass "java/lang/IllegalArgumentException" = some k1 → ∀ z ∈ ([⟨0, 12, 15, 19⟩, ⟨0, 12, 19, 25⟩] : List ExceptionTableEntry), x_miss R_La ([.ref M.o_Vt, .int p0, .int p1, .int p2, .ref ou] : List Value).toArray s k1 7 z := by
    intro k1 z9 z hz
    simp only [List.mem_cons, List.not_mem_nil, or_false] at hz
    rcases hz with rfl | rfl
    · exact ⟨by decide, by decide, "java/lang/IllegalStateException", j0, hts _ (u_Lq_La _ k_La_24), hj0, Xm A s hE "java/lang/IllegalArgumentException" "java/lang/IllegalStateException" (by decide) k1 j0 z9 hj0⟩
    · exact ⟨by decide, by decide, "java/lang/IndexOutOfBoundsException", j1, hts _ (u_Lq_La _ k_La_29), hj1, Xm A s hE "java/lang/IllegalArgumentException" "java/lang/IndexOutOfBoundsException" (by decide) k1 j1 z9 hj1⟩
  refine x_catV (n := 3) (As := [.int p0, .int p1, .int p2]) (rest := [.int 0, .ref ou]) (b := M.o_Vt) (st0 := [.int p2, .int p1, .int p0, .ref M.o_Vt, .int 0, .ref ou]) ⟨hx, hb, hml, hown, hts⟩ (lt_Vt_grow_0 l hfl dC dI X _ h) (cwV 3 hts (gwV good_Lq (u_Lq_La _ k_La_59) (u_Lq_Vt _ k_Vt_190) (u_Lq_Vt _ k_Vt_191) (u_Lq_Vt _ k_Vt_0) (wcs (u_Lq_Vt _ k_Vt_192) u_Lq_Vq)) rfl rfl rfl (by decide +kernel) ⟨Nat.le_of_ble_eq_true rfl, Nat.le_of_ble_eq_true rfl⟩) (pv_ofE (X.same _) (fun U z1 z2 => X.mono _ _ U hFc (hEw _ _ hS U z1 z2)) hPc hKc hDc (va_recv hKc hPc (ci := 11) (q0 := 0) rfl rfl)) rfl hl.1 rfl (Nat.le_of_ble_eq_true rfl) d_La_grow_7 ⟨Nat.le_of_eq (Nat.zero_add _), Nat.le_of_eq (Nat.zero_add _)⟩ (E0 := "java/lang/IllegalArgumentException") (fun E st t z => z.1) ⟨k0, hk0⟩ (x := ⟨0, 12, 23, 13⟩) (pre := [⟨0, 12, 15, 19⟩, ⟨0, 12, 19, 25⟩]) (nm := "java/lang/IllegalArgumentException") (cn := k0) htab hmiss rfl (by decide) (hts _ (u_Lq_La _ k_La_19)) hk0 (fun k1 z9 => by rw [hk0] at z9; cases z9; exact x_refl _ _) (fun qx st t L z1 z2 z3 z4 z5 => ?_)
  have hS := x_catS hS z1 z3.2.1 hFc z5
  obtain ⟨Y1, hP1, -, hD1⟩ := z3.2.2
  obtain ⟨hP, hD⟩ := va_join (wr := [(ou, .inl (kL, 1, .inr (.inl oo)))]) (w1 := wV M Y1 G' S') hP hD [1, 2, 3, 4, 5, 6, 7, 8, 9, 10, 11, 12, 13, 14, 15, 16, 17, 18, 19, 20, 21, 22, 23, 24, 25, 26, 27, 28, 29, 30, 31, 32, 33, 34, 35, 36, 37, 38, 39, 40, 41, 42, 43, 44, 45] [0] rfl rfl (by decide) (by decide) (fun q a b => by have z := z3.2.1.2 q (by rw [z1]; exact a) b; rw [z1] at z; exact z) hFc hP1 hD1
  have hP : va_P (dC, dI) classes ((ou, .inl (kL, 1, .inr (.inl oo))) :: wV M Y1 G' S') t.heap := hP
  have hD : va_D A ((ou, .inl (kL, 1, .inr (.inl oo))) :: wV M Y1 G' S') := hD
  generalize t.heap = H at hP hS ⊢
  show W _ _ _ _ _ _ _ _ _ _ _ _ _ _ _ (F0 m 23 ls [.ref qx])
  refine W.widen (k := G'.gc - G0.gc) (n := G'.gs - G0.gs) (Nat.le_of_eq (Nat.zero_add _)) (Nat.le_of_eq (Nat.zero_add _)) ?_
  refine lv_astore (lv' := [(5, .ref qx), (0, .ref M.o_Vt), (1, .int p0), (2, .int p1), (3, .int p2), (4, .ref ou)]) hx hb d_La_grow_23 hl (by decide) rfl (fun ls hl => ?_)
  refine lv_iconst (v := 3) hx hb d_La_grow_25 (by decide) ?_
  exact W.iret (v := 3) hx hb hr (fun t ht hW => ⟨⟨3, Y1, rfl, rfl, by rw [ht]; exact hP, va_K.moved hW.alike hK, hD⟩, hS.F ht⟩) hS.2.2 d_La_grow_26
set_option maxHeartbeats 4000000 in
set_option maxRecDepth 100000 in
theorem la_grow_1 (l : Launch) (hfl : l.flags = pinnedFlags ++ [noTraceFlag]) (dC : Nat → ClassId) (dI : Nat → Nat → Nat) {K : Nat} {M : CA} {E : (Nat → Prop) → State → Prop} (X : ly_X l dC dI K M E) (sz : Nat) {Y : CT} {G0 G' : CG} {S S' : CS} (ou : Nat) (kL : ClassId) (oo : Nat → Int64) {p0 : Int32} {p1 : Int32} {p2 : Int32} (h : f_Vt_grow K G0 S p0 p1 p2 = some (.error 1, G', S')) : Met l y_La_grow (.codeWith y_La_grow b_La_grow 6 (some .int) [(0, 12, 15, 19), (0, 12, 19, 25), (0, 12, 23, 13), (0, 12, 27, 46)] :: V_Lq) ({ frames := 9, cells := G'.gc - G0.gc, slots := G'.gs - G0.gs, locals := 251 }) (va_Pc [.ref M.o_Vt, .int p0, .int p1, .int p2, .ref ou] (fun U => U.heap.size = sz ∧ at_ (dC, dI) (fun _ => True) ((ou, .inl (kL, 1, .inr (.inl oo))) :: wV M Y G0 S) ((kL, .long) :: tV M) U ∧ E (va_A ((ou, .inl (kL, 1, .inr (.inl oo))) :: wV M Y G0 S) sz) U)) (va_Qi (fun (r_ : Int32) (u : CT) => r_ = 1) (fun (u : CT) t => at_ (dC, dI) (va_A ((ou, .inl (kL, 1, .inr (.inl oo))) :: wV M Y G0 S) sz) ((ou, .inl (kL, 1, .inr (.inl oo))) :: wV M u G' S') ((kL, .long) :: tV M) t) (va_A ((ou, .inl (kL, 1, .inr (.inl oo))) :: wV M Y G0 S) sz)) (G'.gc - G0.gc) (G'.gs - G0.gs) (va_A ((ou, .inl (kL, 1, .inr (.inl oo))) :: wV M Y G0 S) sz) := by
  refine MetW.ofW (handlers := [(0, 12, 15, 19), (0, 12, 19, 25), (0, 12, 23, 13), (0, 12, 27, 46)]) (cc := b_La_grow) (maxL := 6) (ret := (some .int)) (by decide) rfl ?_
  intro p e s m args below meth c s₁ B hml htab hv
  obtain ⟨rfl, hsz, ⟨hP, hK, hD0⟩, hE⟩ := hv
  have hx := B.exec
  have hb := B.bytes
  have hr := B.returns
  have hlocks := B.notSynchronized
  have hts0 := atoms_spec (ws := .codeWith y_La_grow b_La_grow 6 (some .int) [(0, 12, 15, 19), (0, 12, 19, 25), (0, 12, 23, 13), (0, 12, 27, 46)] :: V_Lq) B.pre
  have hts : ∀ w ∈ V_Lq, w.before ([.ref M.o_Vt, .int p0, .int p1, .int p2, .ref ou] : List Value).toArray s = true := fun w h => hts0 w (List.mem_cons_of_mem _ h)
  have hown : s.vm.findClass R_La = some m.cls := findClass_of_methodNamed B.named
  subst hsz
  have hD := hD0.self (sz := s.heap.size)
  generalize hAe : va_A ((ou, .inl (kL, 1, .inr (.inl oo))) :: wV M Y G0 S) s.heap.size = A at hD hE ⊢
  have hA : ∀ q : Nat, s.heap.size ≤ q → A q := fun q h => by rw [← hAe]; exact Or.inr h
  have hS : va_S A s.heap s.heap [] := va_S.rf
  have hP : va_P (dC, dI) classes ((ou, .inl (kL, 1, .inr (.inl oo))) :: wV M Y G0 S) s.heap := hP
  have hK : va_K (dC, dI) classes ((kL, .long) :: tV M) s := hK
  have hEw : ∀ (H : Heap) (locs : List Loc), va_S A s.heap H locs → ∀ U : State, U.heap = H → s.WarmedH U.vm → E A U := fun H locs hS U hU hW => X.kept A s U H locs hE hS hU hW
  have hl := lv_entry ([.ref M.o_Vt, .int p0, .int p1, .int p2, .ref ou]) (n := 6) (Nat.le_of_ble_eq_true rfl)
  rw [lg_entry_eq]
  generalize (lg_sl ([.ref M.o_Vt, .int p0, .int p1, .int p2, .ref ou]) ++ List.replicate (6 - (lg_sl ([.ref M.o_Vt, .int p0, .int p1, .int p2, .ref ou])).length) Slot.unset).toArray = ls at hl ⊢
  have hl : lv_has ls 6 [(0, .ref M.o_Vt), (1, .int p0), (2, .int p1), (3, .int p2), (4, .ref ou)] := hl
  refine lv_aload hx hb d_La_grow_0 (lv_at hl 4 rfl) ?_
  refine lv_iconst (v := 0) hx hb d_La_grow_2 (by decide) ?_
  refine lv_aload_n hx hb d_La_grow_3 rfl (lv_at hl 0 rfl) ?_
  refine lv_iload_n hx hb d_La_grow_4 rfl (lv_at hl 1 rfl) ?_
  refine lv_iload_n hx hb d_La_grow_5 rfl (lv_at hl 2 rfl) ?_
  refine lv_iload_n hx hb d_La_grow_6 rfl (lv_at hl 3 rfl) ?_
  have hPc := hP.sub (ws' := wV M Y G0 S) [1, 2, 3, 4, 5, 6, 7, 8, 9, 10, 11, 12, 13, 14, 15, 16, 17, 18, 19, 20, 21, 22, 23, 24, 25, 26, 27, 28, 29, 30, 31, 32, 33, 34, 35, 36, 37, 38, 39, 40, 41, 42, 43, 44, 45] rfl
  have hDc := hD.sub (ws' := wV M Y G0 S) [1, 2, 3, 4, 5, 6, 7, 8, 9, 10, 11, 12, 13, 14, 15, 16, 17, 18, 19, 20, 21, 22, 23, 24, 25, 26, 27, 28, 29, 30, 31, 32, 33, 34, 35, 36, 37, 38, 39, 40, 41, 42, 43, 44, 45] (by decide) rfl
  have hKc := hK.sub (tys' := tV M) [1, 2, 3] rfl
  have hFc := va_free (wc := wV M Y G0 S) hD hS hA [1, 2, 3, 4, 5, 6, 7, 8, 9, 10, 11, 12, 13, 14, 15, 16, 17, 18, 19, 20, 21, 22, 23, 24, 25, 26, 27, 28, 29, 30, 31, 32, 33, 34, 35, 36, 37, 38, 39, 40, 41, 42, 43, 44, 45] rfl
  obtain ⟨k0, hk0, -⟩ := classAt_of (hts _ (u_Lq_Vt _ k_Vt_115))
  refine x_catV (n := 3) (As := [.int p0, .int p1, .int p2]) (rest := [.int 0, .ref ou]) (b := M.o_Vt) (st0 := [.int p2, .int p1, .int p0, .ref M.o_Vt, .int 0, .ref ou]) ⟨hx, hb, hml, hown, hts⟩ (lt_Vt_grow_1 l hfl dC dI X _ h) (cwV 3 hts (gwV good_Lq (u_Lq_La _ k_La_59) (u_Lq_Vt _ k_Vt_190) (u_Lq_Vt _ k_Vt_191) (u_Lq_Vt _ k_Vt_0) (wcs (u_Lq_Vt _ k_Vt_192) u_Lq_Vq)) rfl rfl rfl (by decide +kernel) ⟨Nat.le_of_ble_eq_true rfl, Nat.le_of_ble_eq_true rfl⟩) (pv_ofE (X.same _) (fun U z1 z2 => X.mono _ _ U hFc (hEw _ _ hS U z1 z2)) hPc hKc hDc (va_recv hKc hPc (ci := 11) (q0 := 0) rfl rfl)) rfl hl.1 rfl (Nat.le_of_ble_eq_true rfl) d_La_grow_7 ⟨Nat.le_of_eq (Nat.zero_add _), Nat.le_of_eq (Nat.zero_add _)⟩ (E0 := "java/lang/IllegalStateException") (fun E st t z => z.1) ⟨k0, hk0⟩ (x := ⟨0, 12, 15, 19⟩) (pre := []) (nm := "java/lang/IllegalStateException") (cn := k0) htab (fun k1 z9 z hz => absurd hz List.not_mem_nil) rfl (by decide) (hts _ (u_Lq_La _ k_La_24)) hk0 (fun k1 z9 => by rw [hk0] at z9; cases z9; exact x_refl _ _) (fun qx st t L z1 z2 z3 z4 z5 => ?_)
  have hS := x_catS hS z1 z3.2.1 hFc z5
  obtain ⟨Y1, hP1, -, hD1⟩ := z3.2.2
  obtain ⟨hP, hD⟩ := va_join (wr := [(ou, .inl (kL, 1, .inr (.inl oo)))]) (w1 := wV M Y1 G' S') hP hD [1, 2, 3, 4, 5, 6, 7, 8, 9, 10, 11, 12, 13, 14, 15, 16, 17, 18, 19, 20, 21, 22, 23, 24, 25, 26, 27, 28, 29, 30, 31, 32, 33, 34, 35, 36, 37, 38, 39, 40, 41, 42, 43, 44, 45] [0] rfl rfl (by decide) (by decide) (fun q a b => by have z := z3.2.1.2 q (by rw [z1]; exact a) b; rw [z1] at z; exact z) hFc hP1 hD1
  have hP : va_P (dC, dI) classes ((ou, .inl (kL, 1, .inr (.inl oo))) :: wV M Y1 G' S') t.heap := hP
  have hD : va_D A ((ou, .inl (kL, 1, .inr (.inl oo))) :: wV M Y1 G' S') := hD
  generalize t.heap = H at hP hS ⊢
  show W _ _ _ _ _ _ _ _ _ _ _ _ _ _ _ (F0 m 15 ls [.ref qx])
  refine W.widen (k := G'.gc - G0.gc) (n := G'.gs - G0.gs) (Nat.le_of_eq (Nat.zero_add _)) (Nat.le_of_eq (Nat.zero_add _)) ?_
  refine lv_astore (lv' := [(5, .ref qx), (0, .ref M.o_Vt), (1, .int p0), (2, .int p1), (3, .int p2), (4, .ref ou)]) hx hb d_La_grow_15 hl (by decide) rfl (fun ls hl => ?_)
  refine lv_iconst (v := 1) hx hb d_La_grow_17 (by decide) ?_
  exact W.iret (v := 1) hx hb hr (fun t ht hW => ⟨⟨1, Y1, rfl, rfl, by rw [ht]; exact hP, va_K.moved hW.alike hK, hD⟩, hS.F ht⟩) hS.2.2 d_La_grow_18
set_option maxHeartbeats 4000000 in
set_option maxRecDepth 100000 in
theorem la_grow_2 (l : Launch) (hfl : l.flags = pinnedFlags ++ [noTraceFlag]) (dC : Nat → ClassId) (dI : Nat → Nat → Nat) {K : Nat} {M : CA} {E : (Nat → Prop) → State → Prop} (X : ly_X l dC dI K M E) (Xm : lz_miss E) (sz : Nat) {Y : CT} {G0 G' : CG} {S S' : CS} (ou : Nat) (kL : ClassId) (oo : Nat → Int64) {p0 : Int32} {p1 : Int32} {p2 : Int32} (h : f_Vt_grow K G0 S p0 p1 p2 = some (.error 2, G', S')) : Met l y_La_grow (.codeWith y_La_grow b_La_grow 6 (some .int) [(0, 12, 15, 19), (0, 12, 19, 25), (0, 12, 23, 13), (0, 12, 27, 46)] :: V_Lq) ({ frames := 9, cells := G'.gc - G0.gc, slots := G'.gs - G0.gs, locals := 251 }) (va_Pc [.ref M.o_Vt, .int p0, .int p1, .int p2, .ref ou] (fun U => U.heap.size = sz ∧ at_ (dC, dI) (fun _ => True) ((ou, .inl (kL, 1, .inr (.inl oo))) :: wV M Y G0 S) ((kL, .long) :: tV M) U ∧ E (va_A ((ou, .inl (kL, 1, .inr (.inl oo))) :: wV M Y G0 S) sz) U)) (va_Qi (fun (r_ : Int32) (u : CT) => r_ = 2) (fun (u : CT) t => at_ (dC, dI) (va_A ((ou, .inl (kL, 1, .inr (.inl oo))) :: wV M Y G0 S) sz) ((ou, .inl (kL, 1, .inr (.inl oo))) :: wV M u G' S') ((kL, .long) :: tV M) t) (va_A ((ou, .inl (kL, 1, .inr (.inl oo))) :: wV M Y G0 S) sz)) (G'.gc - G0.gc) (G'.gs - G0.gs) (va_A ((ou, .inl (kL, 1, .inr (.inl oo))) :: wV M Y G0 S) sz) := by
  refine MetW.ofW (handlers := [(0, 12, 15, 19), (0, 12, 19, 25), (0, 12, 23, 13), (0, 12, 27, 46)]) (cc := b_La_grow) (maxL := 6) (ret := (some .int)) (by decide) rfl ?_
  intro p e s m args below meth c s₁ B hml htab hv
  obtain ⟨rfl, hsz, ⟨hP, hK, hD0⟩, hE⟩ := hv
  have hx := B.exec
  have hb := B.bytes
  have hr := B.returns
  have hlocks := B.notSynchronized
  have hts0 := atoms_spec (ws := .codeWith y_La_grow b_La_grow 6 (some .int) [(0, 12, 15, 19), (0, 12, 19, 25), (0, 12, 23, 13), (0, 12, 27, 46)] :: V_Lq) B.pre
  have hts : ∀ w ∈ V_Lq, w.before ([.ref M.o_Vt, .int p0, .int p1, .int p2, .ref ou] : List Value).toArray s = true := fun w h => hts0 w (List.mem_cons_of_mem _ h)
  have hown : s.vm.findClass R_La = some m.cls := findClass_of_methodNamed B.named
  subst hsz
  have hD := hD0.self (sz := s.heap.size)
  generalize hAe : va_A ((ou, .inl (kL, 1, .inr (.inl oo))) :: wV M Y G0 S) s.heap.size = A at hD hE ⊢
  have hA : ∀ q : Nat, s.heap.size ≤ q → A q := fun q h => by rw [← hAe]; exact Or.inr h
  have hS : va_S A s.heap s.heap [] := va_S.rf
  have hP : va_P (dC, dI) classes ((ou, .inl (kL, 1, .inr (.inl oo))) :: wV M Y G0 S) s.heap := hP
  have hK : va_K (dC, dI) classes ((kL, .long) :: tV M) s := hK
  have hEw : ∀ (H : Heap) (locs : List Loc), va_S A s.heap H locs → ∀ U : State, U.heap = H → s.WarmedH U.vm → E A U := fun H locs hS U hU hW => X.kept A s U H locs hE hS hU hW
  have hl := lv_entry ([.ref M.o_Vt, .int p0, .int p1, .int p2, .ref ou]) (n := 6) (Nat.le_of_ble_eq_true rfl)
  rw [lg_entry_eq]
  generalize (lg_sl ([.ref M.o_Vt, .int p0, .int p1, .int p2, .ref ou]) ++ List.replicate (6 - (lg_sl ([.ref M.o_Vt, .int p0, .int p1, .int p2, .ref ou])).length) Slot.unset).toArray = ls at hl ⊢
  have hl : lv_has ls 6 [(0, .ref M.o_Vt), (1, .int p0), (2, .int p1), (3, .int p2), (4, .ref ou)] := hl
  refine lv_aload hx hb d_La_grow_0 (lv_at hl 4 rfl) ?_
  refine lv_iconst (v := 0) hx hb d_La_grow_2 (by decide) ?_
  refine lv_aload_n hx hb d_La_grow_3 rfl (lv_at hl 0 rfl) ?_
  refine lv_iload_n hx hb d_La_grow_4 rfl (lv_at hl 1 rfl) ?_
  refine lv_iload_n hx hb d_La_grow_5 rfl (lv_at hl 2 rfl) ?_
  refine lv_iload_n hx hb d_La_grow_6 rfl (lv_at hl 3 rfl) ?_
  have hPc := hP.sub (ws' := wV M Y G0 S) [1, 2, 3, 4, 5, 6, 7, 8, 9, 10, 11, 12, 13, 14, 15, 16, 17, 18, 19, 20, 21, 22, 23, 24, 25, 26, 27, 28, 29, 30, 31, 32, 33, 34, 35, 36, 37, 38, 39, 40, 41, 42, 43, 44, 45] rfl
  have hDc := hD.sub (ws' := wV M Y G0 S) [1, 2, 3, 4, 5, 6, 7, 8, 9, 10, 11, 12, 13, 14, 15, 16, 17, 18, 19, 20, 21, 22, 23, 24, 25, 26, 27, 28, 29, 30, 31, 32, 33, 34, 35, 36, 37, 38, 39, 40, 41, 42, 43, 44, 45] (by decide) rfl
  have hKc := hK.sub (tys' := tV M) [1, 2, 3] rfl
  have hFc := va_free (wc := wV M Y G0 S) hD hS hA [1, 2, 3, 4, 5, 6, 7, 8, 9, 10, 11, 12, 13, 14, 15, 16, 17, 18, 19, 20, 21, 22, 23, 24, 25, 26, 27, 28, 29, 30, 31, 32, 33, 34, 35, 36, 37, 38, 39, 40, 41, 42, 43, 44, 45] rfl
  obtain ⟨k0, hk0, -⟩ := classAt_of (hts _ (u_Lq_Vt _ k_Vt_126))
  obtain ⟨j0, hj0, -⟩ := classAt_of (hts _ (u_Lq_Vt _ k_Vt_115))
  have hmiss : ∀ k1, s.vm.findClass "java/lang/IndexOutOfBoundsException" = some k1 → ∀ z ∈ ([⟨0, 12, 15, 19⟩] : List ExceptionTableEntry), x_miss R_La ([.ref M.o_Vt, .int p0, .int p1, .int p2, .ref ou] : List Value).toArray s k1 7 z := by
    intro k1 z9 z hz
    simp only [List.mem_cons, List.not_mem_nil, or_false] at hz
    subst hz
    exact ⟨by decide, by decide, "java/lang/IllegalStateException", j0, hts _ (u_Lq_La _ k_La_24), hj0, Xm A s hE "java/lang/IndexOutOfBoundsException" "java/lang/IllegalStateException" (by decide) k1 j0 z9 hj0⟩
  refine x_catV (n := 3) (As := [.int p0, .int p1, .int p2]) (rest := [.int 0, .ref ou]) (b := M.o_Vt) (st0 := [.int p2, .int p1, .int p0, .ref M.o_Vt, .int 0, .ref ou]) ⟨hx, hb, hml, hown, hts⟩ (lt_Vt_grow_2 l hfl dC dI X _ h) (cwV 3 hts (gwV good_Lq (u_Lq_La _ k_La_59) (u_Lq_Vt _ k_Vt_190) (u_Lq_Vt _ k_Vt_191) (u_Lq_Vt _ k_Vt_0) (wcs (u_Lq_Vt _ k_Vt_192) u_Lq_Vq)) rfl rfl rfl (by decide +kernel) ⟨Nat.le_of_ble_eq_true rfl, Nat.le_of_ble_eq_true rfl⟩) (pv_ofE (X.same _) (fun U z1 z2 => X.mono _ _ U hFc (hEw _ _ hS U z1 z2)) hPc hKc hDc (va_recv hKc hPc (ci := 11) (q0 := 0) rfl rfl)) rfl hl.1 rfl (Nat.le_of_ble_eq_true rfl) d_La_grow_7 ⟨Nat.le_of_eq (Nat.zero_add _), Nat.le_of_eq (Nat.zero_add _)⟩ (E0 := "java/lang/IndexOutOfBoundsException") (fun E st t z => z.1) ⟨k0, hk0⟩ (x := ⟨0, 12, 19, 25⟩) (pre := [⟨0, 12, 15, 19⟩]) (nm := "java/lang/IndexOutOfBoundsException") (cn := k0) htab hmiss rfl (by decide) (hts _ (u_Lq_La _ k_La_29)) hk0 (fun k1 z9 => by rw [hk0] at z9; cases z9; exact x_refl _ _) (fun qx st t L z1 z2 z3 z4 z5 => ?_)
  have hS := x_catS hS z1 z3.2.1 hFc z5
  obtain ⟨Y1, hP1, -, hD1⟩ := z3.2.2
  obtain ⟨hP, hD⟩ := va_join (wr := [(ou, .inl (kL, 1, .inr (.inl oo)))]) (w1 := wV M Y1 G' S') hP hD [1, 2, 3, 4, 5, 6, 7, 8, 9, 10, 11, 12, 13, 14, 15, 16, 17, 18, 19, 20, 21, 22, 23, 24, 25, 26, 27, 28, 29, 30, 31, 32, 33, 34, 35, 36, 37, 38, 39, 40, 41, 42, 43, 44, 45] [0] rfl rfl (by decide) (by decide) (fun q a b => by have z := z3.2.1.2 q (by rw [z1]; exact a) b; rw [z1] at z; exact z) hFc hP1 hD1
  have hP : va_P (dC, dI) classes ((ou, .inl (kL, 1, .inr (.inl oo))) :: wV M Y1 G' S') t.heap := hP
  have hD : va_D A ((ou, .inl (kL, 1, .inr (.inl oo))) :: wV M Y1 G' S') := hD
  generalize t.heap = H at hP hS ⊢
  show W _ _ _ _ _ _ _ _ _ _ _ _ _ _ _ (F0 m 19 ls [.ref qx])
  refine W.widen (k := G'.gc - G0.gc) (n := G'.gs - G0.gs) (Nat.le_of_eq (Nat.zero_add _)) (Nat.le_of_eq (Nat.zero_add _)) ?_
  refine lv_astore (lv' := [(5, .ref qx), (0, .ref M.o_Vt), (1, .int p0), (2, .int p1), (3, .int p2), (4, .ref ou)]) hx hb d_La_grow_19 hl (by decide) rfl (fun ls hl => ?_)
  refine lv_iconst (v := 2) hx hb d_La_grow_21 (by decide) ?_
  exact W.iret (v := 2) hx hb hr (fun t ht hW => ⟨⟨2, Y1, rfl, rfl, by rw [ht]; exact hP, va_K.moved hW.alike hK, hD⟩, hS.F ht⟩) hS.2.2 d_La_grow_22
set_option maxHeartbeats 4000000 in
set_option maxRecDepth 100000 in
theorem la_grow_3 (l : Launch) (hfl : l.flags = pinnedFlags ++ [noTraceFlag]) (dC : Nat → ClassId) (dI : Nat → Nat → Nat) {K : Nat} {M : CA} {E : (Nat → Prop) → State → Prop} (X : ly_X l dC dI K M E) (Xm : lz_miss E) (sz : Nat) {Y : CT} {G0 G' : CG} {S S' : CS} (ou : Nat) (kL : ClassId) (oo : Nat → Int64) {p0 : Int32} {p1 : Int32} {p2 : Int32} (h : f_Vt_grow K G0 S p0 p1 p2 = some (.error 3, G', S')) : Met l y_La_grow (.codeWith y_La_grow b_La_grow 6 (some .int) [(0, 12, 15, 19), (0, 12, 19, 25), (0, 12, 23, 13), (0, 12, 27, 46)] :: V_Lq) ({ frames := 9, cells := G'.gc - G0.gc, slots := G'.gs - G0.gs, locals := 251 }) (va_Pc [.ref M.o_Vt, .int p0, .int p1, .int p2, .ref ou] (fun U => U.heap.size = sz ∧ at_ (dC, dI) (fun _ => True) ((ou, .inl (kL, 1, .inr (.inl oo))) :: wV M Y G0 S) ((kL, .long) :: tV M) U ∧ E (va_A ((ou, .inl (kL, 1, .inr (.inl oo))) :: wV M Y G0 S) sz) U)) (va_Qi (fun (r_ : Int32) (u : CT) => r_ = 4) (fun (u : CT) t => at_ (dC, dI) (va_A ((ou, .inl (kL, 1, .inr (.inl oo))) :: wV M Y G0 S) sz) ((ou, .inl (kL, 1, .inr (.inl oo))) :: wV M u G' S') ((kL, .long) :: tV M) t) (va_A ((ou, .inl (kL, 1, .inr (.inl oo))) :: wV M Y G0 S) sz)) (G'.gc - G0.gc) (G'.gs - G0.gs) (va_A ((ou, .inl (kL, 1, .inr (.inl oo))) :: wV M Y G0 S) sz) := by
  refine MetW.ofW (handlers := [(0, 12, 15, 19), (0, 12, 19, 25), (0, 12, 23, 13), (0, 12, 27, 46)]) (cc := b_La_grow) (maxL := 6) (ret := (some .int)) (by decide) rfl ?_
  intro p e s m args below meth c s₁ B hml htab hv
  obtain ⟨rfl, hsz, ⟨hP, hK, hD0⟩, hE⟩ := hv
  have hx := B.exec
  have hb := B.bytes
  have hr := B.returns
  have hlocks := B.notSynchronized
  have hts0 := atoms_spec (ws := .codeWith y_La_grow b_La_grow 6 (some .int) [(0, 12, 15, 19), (0, 12, 19, 25), (0, 12, 23, 13), (0, 12, 27, 46)] :: V_Lq) B.pre
  have hts : ∀ w ∈ V_Lq, w.before ([.ref M.o_Vt, .int p0, .int p1, .int p2, .ref ou] : List Value).toArray s = true := fun w h => hts0 w (List.mem_cons_of_mem _ h)
  have hown : s.vm.findClass R_La = some m.cls := findClass_of_methodNamed B.named
  subst hsz
  have hD := hD0.self (sz := s.heap.size)
  generalize hAe : va_A ((ou, .inl (kL, 1, .inr (.inl oo))) :: wV M Y G0 S) s.heap.size = A at hD hE ⊢
  have hA : ∀ q : Nat, s.heap.size ≤ q → A q := fun q h => by rw [← hAe]; exact Or.inr h
  have hS : va_S A s.heap s.heap [] := va_S.rf
  have hP : va_P (dC, dI) classes ((ou, .inl (kL, 1, .inr (.inl oo))) :: wV M Y G0 S) s.heap := hP
  have hK : va_K (dC, dI) classes ((kL, .long) :: tV M) s := hK
  have hEw : ∀ (H : Heap) (locs : List Loc), va_S A s.heap H locs → ∀ U : State, U.heap = H → s.WarmedH U.vm → E A U := fun H locs hS U hU hW => X.kept A s U H locs hE hS hU hW
  have hl := lv_entry ([.ref M.o_Vt, .int p0, .int p1, .int p2, .ref ou]) (n := 6) (Nat.le_of_ble_eq_true rfl)
  rw [lg_entry_eq]
  generalize (lg_sl ([.ref M.o_Vt, .int p0, .int p1, .int p2, .ref ou]) ++ List.replicate (6 - (lg_sl ([.ref M.o_Vt, .int p0, .int p1, .int p2, .ref ou])).length) Slot.unset).toArray = ls at hl ⊢
  have hl : lv_has ls 6 [(0, .ref M.o_Vt), (1, .int p0), (2, .int p1), (3, .int p2), (4, .ref ou)] := hl
  refine lv_aload hx hb d_La_grow_0 (lv_at hl 4 rfl) ?_
  refine lv_iconst (v := 0) hx hb d_La_grow_2 (by decide) ?_
  refine lv_aload_n hx hb d_La_grow_3 rfl (lv_at hl 0 rfl) ?_
  refine lv_iload_n hx hb d_La_grow_4 rfl (lv_at hl 1 rfl) ?_
  refine lv_iload_n hx hb d_La_grow_5 rfl (lv_at hl 2 rfl) ?_
  refine lv_iload_n hx hb d_La_grow_6 rfl (lv_at hl 3 rfl) ?_
  have hPc := hP.sub (ws' := wV M Y G0 S) [1, 2, 3, 4, 5, 6, 7, 8, 9, 10, 11, 12, 13, 14, 15, 16, 17, 18, 19, 20, 21, 22, 23, 24, 25, 26, 27, 28, 29, 30, 31, 32, 33, 34, 35, 36, 37, 38, 39, 40, 41, 42, 43, 44, 45] rfl
  have hDc := hD.sub (ws' := wV M Y G0 S) [1, 2, 3, 4, 5, 6, 7, 8, 9, 10, 11, 12, 13, 14, 15, 16, 17, 18, 19, 20, 21, 22, 23, 24, 25, 26, 27, 28, 29, 30, 31, 32, 33, 34, 35, 36, 37, 38, 39, 40, 41, 42, 43, 44, 45] (by decide) rfl
  have hKc := hK.sub (tys' := tV M) [1, 2, 3] rfl
  have hFc := va_free (wc := wV M Y G0 S) hD hS hA [1, 2, 3, 4, 5, 6, 7, 8, 9, 10, 11, 12, 13, 14, 15, 16, 17, 18, 19, 20, 21, 22, 23, 24, 25, 26, 27, 28, 29, 30, 31, 32, 33, 34, 35, 36, 37, 38, 39, 40, 41, 42, 43, 44, 45] rfl
  obtain ⟨k0, hk0, -⟩ := classAt_of (hts _ (u_Lq_Vt _ k_Vt_173))
  obtain ⟨j0, hj0, -⟩ := classAt_of (hts _ (u_Lq_Vt _ k_Vt_115))
  obtain ⟨j1, hj1, -⟩ := classAt_of (hts _ (u_Lq_Vt _ k_Vt_126))
  obtain ⟨j2, hj2, -⟩ := classAt_of (hts _ (u_Lq_Vt _ k_Vt_101))
  have hmiss : ∀ k1, s.vm.findClass "java/lang/UnsupportedOperationException" = some k1 → ∀ z ∈ ([⟨0, 12, 15, 19⟩, ⟨0, 12, 19, 25⟩, ⟨0, 12, 23, 13⟩] : List ExceptionTableEntry), x_miss R_La ([.ref M.o_Vt, .int p0, .int p1, .int p2, .ref ou] : List Value).toArray s k1 7 z := by
    intro k1 z9 z hz
    simp only [List.mem_cons, List.not_mem_nil, or_false] at hz
    rcases hz with rfl | rfl | rfl
    · exact ⟨by decide, by decide, "java/lang/IllegalStateException", j0, hts _ (u_Lq_La _ k_La_24), hj0, Xm A s hE "java/lang/UnsupportedOperationException" "java/lang/IllegalStateException" (by decide) k1 j0 z9 hj0⟩
    · exact ⟨by decide, by decide, "java/lang/IndexOutOfBoundsException", j1, hts _ (u_Lq_La _ k_La_29), hj1, Xm A s hE "java/lang/UnsupportedOperationException" "java/lang/IndexOutOfBoundsException" (by decide) k1 j1 z9 hj1⟩
    · exact ⟨by decide, by decide, "java/lang/IllegalArgumentException", j2, hts _ (u_Lq_La _ k_La_19), hj2, Xm A s hE "java/lang/UnsupportedOperationException" "java/lang/IllegalArgumentException" (by decide) k1 j2 z9 hj2⟩
  refine x_catV (n := 3) (As := [.int p0, .int p1, .int p2]) (rest := [.int 0, .ref ou]) (b := M.o_Vt) (st0 := [.int p2, .int p1, .int p0, .ref M.o_Vt, .int 0, .ref ou]) ⟨hx, hb, hml, hown, hts⟩ (lt_Vt_grow_3 l hfl dC dI X _ h) (cwV 3 hts (gwV good_Lq (u_Lq_La _ k_La_59) (u_Lq_Vt _ k_Vt_190) (u_Lq_Vt _ k_Vt_191) (u_Lq_Vt _ k_Vt_0) (wcs (u_Lq_Vt _ k_Vt_192) u_Lq_Vq)) rfl rfl rfl (by decide +kernel) ⟨Nat.le_of_ble_eq_true rfl, Nat.le_of_ble_eq_true rfl⟩) (pv_ofE (X.same _) (fun U z1 z2 => X.mono _ _ U hFc (hEw _ _ hS U z1 z2)) hPc hKc hDc (va_recv hKc hPc (ci := 11) (q0 := 0) rfl rfl)) rfl hl.1 rfl (Nat.le_of_ble_eq_true rfl) d_La_grow_7 ⟨Nat.le_of_eq (Nat.zero_add _), Nat.le_of_eq (Nat.zero_add _)⟩ (E0 := "java/lang/UnsupportedOperationException") (fun E st t z => z.1) ⟨k0, hk0⟩ (x := ⟨0, 12, 27, 46⟩) (pre := [⟨0, 12, 15, 19⟩, ⟨0, 12, 19, 25⟩, ⟨0, 12, 23, 13⟩]) (nm := "java/lang/UnsupportedOperationException") (cn := k0) htab hmiss rfl (by decide) (hts _ (u_Lq_La _ k_La_50)) hk0 (fun k1 z9 => by rw [hk0] at z9; cases z9; exact x_refl _ _) (fun qx st t L z1 z2 z3 z4 z5 => ?_)
  have hS := x_catS hS z1 z3.2.1 hFc z5
  obtain ⟨Y1, hP1, -, hD1⟩ := z3.2.2
  obtain ⟨hP, hD⟩ := va_join (wr := [(ou, .inl (kL, 1, .inr (.inl oo)))]) (w1 := wV M Y1 G' S') hP hD [1, 2, 3, 4, 5, 6, 7, 8, 9, 10, 11, 12, 13, 14, 15, 16, 17, 18, 19, 20, 21, 22, 23, 24, 25, 26, 27, 28, 29, 30, 31, 32, 33, 34, 35, 36, 37, 38, 39, 40, 41, 42, 43, 44, 45] [0] rfl rfl (by decide) (by decide) (fun q a b => by have z := z3.2.1.2 q (by rw [z1]; exact a) b; rw [z1] at z; exact z) hFc hP1 hD1
  have hP : va_P (dC, dI) classes ((ou, .inl (kL, 1, .inr (.inl oo))) :: wV M Y1 G' S') t.heap := hP
  have hD : va_D A ((ou, .inl (kL, 1, .inr (.inl oo))) :: wV M Y1 G' S') := hD
  generalize t.heap = H at hP hS ⊢
  show W _ _ _ _ _ _ _ _ _ _ _ _ _ _ _ (F0 m 27 ls [.ref qx])
  refine W.widen (k := G'.gc - G0.gc) (n := G'.gs - G0.gs) (Nat.le_of_eq (Nat.zero_add _)) (Nat.le_of_eq (Nat.zero_add _)) ?_
  refine lv_astore (lv' := [(5, .ref qx), (0, .ref M.o_Vt), (1, .int p0), (2, .int p1), (3, .int p2), (4, .ref ou)]) hx hb d_La_grow_27 hl (by decide) rfl (fun ls hl => ?_)
  refine lv_iconst (v := 4) hx hb d_La_grow_29 (by decide) ?_
  exact W.iret (v := 4) hx hb hr (fun t ht hW => ⟨⟨4, Y1, rfl, rfl, by rw [ht]; exact hP, va_K.moved hW.alike hK, hD⟩, hS.F ht⟩) hS.2.2 d_La_grow_30
set_option maxHeartbeats 4000000 in
set_option maxRecDepth 100000 in
theorem la_cut_ok (l : Launch) (hfl : l.flags = pinnedFlags ++ [noTraceFlag]) (dC : Nat → ClassId) (dI : Nat → Nat → Nat) {K : Nat} {M : CA} {E : (Nat → Prop) → State → Prop} (X : ly_X l dC dI K M E) (sz : Nat) {Y : CT} {G0 G' : CG} {S S' : CS} (ou : Nat) (kL : ClassId) (oo : Nat → Int64) {p0 : Int32} {p1 : Int32} {r : Int32} (h : f_Vt_cut K G0 S p0 p1 = some (.ok r, G', S')) : Met l y_La_cut (.codeWith y_La_cut b_La_cut 5 (some .int) [(0, 10, 13, 19), (0, 10, 17, 25), (0, 10, 21, 13)] :: V_Lq) ({ frames := 9, cells := G'.gc - G0.gc, slots := G'.gs - G0.gs, locals := 247 }) (va_Pc [.ref M.o_Vt, .int p0, .int p1, .ref ou] (fun U => U.heap.size = sz ∧ at_ (dC, dI) (fun _ => True) ((ou, .inl (kL, 1, .inr (.inl oo))) :: wV M Y G0 S) ((kL, .long) :: tV M) U ∧ E (va_A ((ou, .inl (kL, 1, .inr (.inl oo))) :: wV M Y G0 S) sz) U)) (va_Qi (fun (r_ : Int32) (u : CT) => r_ = 0) (fun (u : CT) t => at_ (dC, dI) (va_A ((ou, .inl (kL, 1, .inr (.inl oo))) :: wV M Y G0 S) sz) ((ou, .inl (kL, 1, .inr (.inl (vp_updL oo (0 : Int32).toNatClampNeg r.toInt64)))) :: wV M u G' S') ((kL, .long) :: tV M) t) (va_A ((ou, .inl (kL, 1, .inr (.inl oo))) :: wV M Y G0 S) sz)) (G'.gc - G0.gc) (G'.gs - G0.gs) (va_A ((ou, .inl (kL, 1, .inr (.inl oo))) :: wV M Y G0 S) sz) := by
  refine MetW.ofW (handlers := [(0, 10, 13, 19), (0, 10, 17, 25), (0, 10, 21, 13)]) (cc := b_La_cut) (maxL := 5) (ret := (some .int)) (by decide) rfl ?_
  intro p e s m args below meth c s₁ B hml htab hv
  obtain ⟨rfl, hsz, ⟨hP, hK, hD0⟩, hE⟩ := hv
  have hx := B.exec
  have hb := B.bytes
  have hr := B.returns
  have hlocks := B.notSynchronized
  have hts0 := atoms_spec (ws := .codeWith y_La_cut b_La_cut 5 (some .int) [(0, 10, 13, 19), (0, 10, 17, 25), (0, 10, 21, 13)] :: V_Lq) B.pre
  have hts : ∀ w ∈ V_Lq, w.before ([.ref M.o_Vt, .int p0, .int p1, .ref ou] : List Value).toArray s = true := fun w h => hts0 w (List.mem_cons_of_mem _ h)
  have hown : s.vm.findClass R_La = some m.cls := findClass_of_methodNamed B.named
  subst hsz
  have hD := hD0.self (sz := s.heap.size)
  generalize hAe : va_A ((ou, .inl (kL, 1, .inr (.inl oo))) :: wV M Y G0 S) s.heap.size = A at hD hE ⊢
  have hA : ∀ q : Nat, s.heap.size ≤ q → A q := fun q h => by rw [← hAe]; exact Or.inr h
  have hS : va_S A s.heap s.heap [] := va_S.rf
  have hP : va_P (dC, dI) classes ((ou, .inl (kL, 1, .inr (.inl oo))) :: wV M Y G0 S) s.heap := hP
  have hK : va_K (dC, dI) classes ((kL, .long) :: tV M) s := hK
  have hEw : ∀ (H : Heap) (locs : List Loc), va_S A s.heap H locs → ∀ U : State, U.heap = H → s.WarmedH U.vm → E A U := fun H locs hS U hU hW => X.kept A s U H locs hE hS hU hW
  have hl := lv_entry ([.ref M.o_Vt, .int p0, .int p1, .ref ou]) (n := 5) (Nat.le_of_ble_eq_true rfl)
  rw [lg_entry_eq]
  generalize (lg_sl ([.ref M.o_Vt, .int p0, .int p1, .ref ou]) ++ List.replicate (5 - (lg_sl ([.ref M.o_Vt, .int p0, .int p1, .ref ou])).length) Slot.unset).toArray = ls at hl ⊢
  have hl : lv_has ls 5 [(0, .ref M.o_Vt), (1, .int p0), (2, .int p1), (3, .ref ou)] := hl
  refine lv_aload_n hx hb d_La_cut_0 rfl (lv_at hl 3 rfl) ?_
  refine lv_iconst (v := 0) hx hb d_La_cut_1 (by decide) ?_
  refine lv_aload_n hx hb d_La_cut_2 rfl (lv_at hl 0 rfl) ?_
  refine lv_iload_n hx hb d_La_cut_3 rfl (lv_at hl 1 rfl) ?_
  refine lv_iload_n hx hb d_La_cut_4 rfl (lv_at hl 2 rfl) ?_
  have hPc := hP.sub (ws' := wV M Y G0 S) [1, 2, 3, 4, 5, 6, 7, 8, 9, 10, 11, 12, 13, 14, 15, 16, 17, 18, 19, 20, 21, 22, 23, 24, 25, 26, 27, 28, 29, 30, 31, 32, 33, 34, 35, 36, 37, 38, 39, 40, 41, 42, 43, 44, 45] rfl
  have hDc := hD.sub (ws' := wV M Y G0 S) [1, 2, 3, 4, 5, 6, 7, 8, 9, 10, 11, 12, 13, 14, 15, 16, 17, 18, 19, 20, 21, 22, 23, 24, 25, 26, 27, 28, 29, 30, 31, 32, 33, 34, 35, 36, 37, 38, 39, 40, 41, 42, 43, 44, 45] (by decide) rfl
  have hKc := hK.sub (tys' := tV M) [1, 2, 3] rfl
  have hFc := va_free (wc := wV M Y G0 S) hD hS hA [1, 2, 3, 4, 5, 6, 7, 8, 9, 10, 11, 12, 13, 14, 15, 16, 17, 18, 19, 20, 21, 22, 23, 24, 25, 26, 27, 28, 29, 30, 31, 32, 33, 34, 35, 36, 37, 38, 39, 40, 41, 42, 43, 44, 45] rfl
  refine va_calli (va_runV (As := [.int p0, .int p1]) (rest := [.int 0, .ref ou]) ⟨hx, hb, hml, hown, hts⟩ (l_Vt_cut l dC dI X _ h) (cwV 2 hts (gwV good_Lq (u_Lq_La _ k_La_63) (u_Lq_Vt _ k_Vt_194) (u_Lq_Vt _ k_Vt_195) (u_Lq_Vt _ k_Vt_0) (wcs (u_Lq_Vt _ k_Vt_196) u_Lq_Vq)) rfl rfl rfl (by decide +kernel) ⟨Nat.le_of_ble_eq_true rfl, Nat.le_of_ble_eq_true rfl⟩) (pv_ofE (X.same _) (fun U z1 z2 => X.mono _ _ U hFc (hEw _ _ hS U z1 z2)) hPc hKc hDc (va_recv hKc hPc (ci := 11) (q0 := 0) rfl rfl)) rfl rfl hl.1 rfl (lv_room (Nat.le_of_ble_eq_true rfl)) d_La_cut_5 ⟨Nat.le_of_eq (Nat.zero_add _), Nat.le_of_eq (Nat.zero_add _)⟩) hS (fun q _ h => hFc q h) hFc (fun r_ Y1 t H locs ht hvm hw hB hz1 hk1 hS => ?_)
  rw [hw]
  obtain ⟨hP1, -, hD1⟩ := hB
  rw [ht] at hP1
  obtain ⟨hP, hD⟩ := va_join (wr := [(ou, .inl (kL, 1, .inr (.inl oo)))]) (w1 := wV M Y1 G' S') hP hD [1, 2, 3, 4, 5, 6, 7, 8, 9, 10, 11, 12, 13, 14, 15, 16, 17, 18, 19, 20, 21, 22, 23, 24, 25, 26, 27, 28, 29, 30, 31, 32, 33, 34, 35, 36, 37, 38, 39, 40, 41, 42, 43, 44, 45] [0] rfl rfl (by decide) (by decide) hk1 hFc hP1 hD1
  refine W.widen (k := G'.gc - G0.gc) (n := G'.gs - G0.gs) (Nat.le_of_eq (Nat.zero_add _)) (Nat.le_of_eq (Nat.zero_add _)) ?_
  have hP : va_P (dC, dI) classes ((ou, .inl (kL, 1, .inr (.inl oo))) :: wV M Y1 G' S') H := hP
  have hD : va_D A ((ou, .inl (kL, 1, .inr (.inl oo))) :: wV M Y1 G' S') := hD
  refine lv_i2l hx hb d_La_cut_8 rfl ?_
  refine va_last hx hb hK hP hD hS 0 0 rfl rfl (by unfold vp_in; decide) d_La_cut_9 (fun H locs hP hD hS => ?_)
  refine lv_goto (tgt := 25) hx hb d_La_cut_10 (by decide) ?_
  refine lv_iconst (v := 0) hx hb d_La_cut_25 (by decide) ?_
  exact W.iret (v := 0) hx hb hr (fun t ht hW => ⟨⟨0, Y1, rfl, rfl, by rw [ht]; exact hP, va_K.moved hW.alike hK, hD⟩, hS.F ht⟩) hS.2.2 d_La_cut_26
set_option maxHeartbeats 4000000 in
set_option maxRecDepth 100000 in
theorem la_cut_0 (l : Launch) (hfl : l.flags = pinnedFlags ++ [noTraceFlag]) (dC : Nat → ClassId) (dI : Nat → Nat → Nat) {K : Nat} {M : CA} {E : (Nat → Prop) → State → Prop} (X : ly_X l dC dI K M E) (Xm : lz_miss E) (sz : Nat) {Y : CT} {G0 G' : CG} {S S' : CS} (ou : Nat) (kL : ClassId) (oo : Nat → Int64) {p0 : Int32} {p1 : Int32} (h : f_Vt_cut K G0 S p0 p1 = some (.error 0, G', S')) : Met l y_La_cut (.codeWith y_La_cut b_La_cut 5 (some .int) [(0, 10, 13, 19), (0, 10, 17, 25), (0, 10, 21, 13)] :: V_Lq) ({ frames := 9, cells := G'.gc - G0.gc, slots := G'.gs - G0.gs, locals := 247 }) (va_Pc [.ref M.o_Vt, .int p0, .int p1, .ref ou] (fun U => U.heap.size = sz ∧ at_ (dC, dI) (fun _ => True) ((ou, .inl (kL, 1, .inr (.inl oo))) :: wV M Y G0 S) ((kL, .long) :: tV M) U ∧ E (va_A ((ou, .inl (kL, 1, .inr (.inl oo))) :: wV M Y G0 S) sz) U)) (va_Qi (fun (r_ : Int32) (u : CT) => r_ = 3) (fun (u : CT) t => at_ (dC, dI) (va_A ((ou, .inl (kL, 1, .inr (.inl oo))) :: wV M Y G0 S) sz) ((ou, .inl (kL, 1, .inr (.inl oo))) :: wV M u G' S') ((kL, .long) :: tV M) t) (va_A ((ou, .inl (kL, 1, .inr (.inl oo))) :: wV M Y G0 S) sz)) (G'.gc - G0.gc) (G'.gs - G0.gs) (va_A ((ou, .inl (kL, 1, .inr (.inl oo))) :: wV M Y G0 S) sz) := by
  refine MetW.ofW (handlers := [(0, 10, 13, 19), (0, 10, 17, 25), (0, 10, 21, 13)]) (cc := b_La_cut) (maxL := 5) (ret := (some .int)) (by decide) rfl ?_
  intro p e s m args below meth c s₁ B hml htab hv
  obtain ⟨rfl, hsz, ⟨hP, hK, hD0⟩, hE⟩ := hv
  have hx := B.exec
  have hb := B.bytes
  have hr := B.returns
  have hlocks := B.notSynchronized
  have hts0 := atoms_spec (ws := .codeWith y_La_cut b_La_cut 5 (some .int) [(0, 10, 13, 19), (0, 10, 17, 25), (0, 10, 21, 13)] :: V_Lq) B.pre
  have hts : ∀ w ∈ V_Lq, w.before ([.ref M.o_Vt, .int p0, .int p1, .ref ou] : List Value).toArray s = true := fun w h => hts0 w (List.mem_cons_of_mem _ h)
  have hown : s.vm.findClass R_La = some m.cls := findClass_of_methodNamed B.named
  subst hsz
  have hD := hD0.self (sz := s.heap.size)
  generalize hAe : va_A ((ou, .inl (kL, 1, .inr (.inl oo))) :: wV M Y G0 S) s.heap.size = A at hD hE ⊢
  have hA : ∀ q : Nat, s.heap.size ≤ q → A q := fun q h => by rw [← hAe]; exact Or.inr h
  have hS : va_S A s.heap s.heap [] := va_S.rf
  have hP : va_P (dC, dI) classes ((ou, .inl (kL, 1, .inr (.inl oo))) :: wV M Y G0 S) s.heap := hP
  have hK : va_K (dC, dI) classes ((kL, .long) :: tV M) s := hK
  have hEw : ∀ (H : Heap) (locs : List Loc), va_S A s.heap H locs → ∀ U : State, U.heap = H → s.WarmedH U.vm → E A U := fun H locs hS U hU hW => X.kept A s U H locs hE hS hU hW
  have hl := lv_entry ([.ref M.o_Vt, .int p0, .int p1, .ref ou]) (n := 5) (Nat.le_of_ble_eq_true rfl)
  rw [lg_entry_eq]
  generalize (lg_sl ([.ref M.o_Vt, .int p0, .int p1, .ref ou]) ++ List.replicate (5 - (lg_sl ([.ref M.o_Vt, .int p0, .int p1, .ref ou])).length) Slot.unset).toArray = ls at hl ⊢
  have hl : lv_has ls 5 [(0, .ref M.o_Vt), (1, .int p0), (2, .int p1), (3, .ref ou)] := hl
  refine lv_aload_n hx hb d_La_cut_0 rfl (lv_at hl 3 rfl) ?_
  refine lv_iconst (v := 0) hx hb d_La_cut_1 (by decide) ?_
  refine lv_aload_n hx hb d_La_cut_2 rfl (lv_at hl 0 rfl) ?_
  refine lv_iload_n hx hb d_La_cut_3 rfl (lv_at hl 1 rfl) ?_
  refine lv_iload_n hx hb d_La_cut_4 rfl (lv_at hl 2 rfl) ?_
  have hPc := hP.sub (ws' := wV M Y G0 S) [1, 2, 3, 4, 5, 6, 7, 8, 9, 10, 11, 12, 13, 14, 15, 16, 17, 18, 19, 20, 21, 22, 23, 24, 25, 26, 27, 28, 29, 30, 31, 32, 33, 34, 35, 36, 37, 38, 39, 40, 41, 42, 43, 44, 45] rfl
  have hDc := hD.sub (ws' := wV M Y G0 S) [1, 2, 3, 4, 5, 6, 7, 8, 9, 10, 11, 12, 13, 14, 15, 16, 17, 18, 19, 20, 21, 22, 23, 24, 25, 26, 27, 28, 29, 30, 31, 32, 33, 34, 35, 36, 37, 38, 39, 40, 41, 42, 43, 44, 45] (by decide) rfl
  have hKc := hK.sub (tys' := tV M) [1, 2, 3] rfl
  have hFc := va_free (wc := wV M Y G0 S) hD hS hA [1, 2, 3, 4, 5, 6, 7, 8, 9, 10, 11, 12, 13, 14, 15, 16, 17, 18, 19, 20, 21, 22, 23, 24, 25, 26, 27, 28, 29, 30, 31, 32, 33, 34, 35, 36, 37, 38, 39, 40, 41, 42, 43, 44, 45] rfl
  obtain ⟨k0, hk0, -⟩ := classAt_of (hts _ (u_Lq_Vt _ k_Vt_101))
  obtain ⟨j0, hj0, -⟩ := classAt_of (hts _ (u_Lq_Vt _ k_Vt_115))
  obtain ⟨j1, hj1, -⟩ := classAt_of (hts _ (u_Lq_Vt _ k_Vt_126))
  have hmiss : ∀ k1, s.vm.findClass "java/lang/IllegalArgumentException" = some k1 → ∀ z ∈ ([⟨0, 10, 13, 19⟩, ⟨0, 10, 17, 25⟩] : List ExceptionTableEntry), x_miss R_La ([.ref M.o_Vt, .int p0, .int p1, .ref ou] : List Value).toArray s k1 5 z := by
    intro k1 z9 z hz
    simp only [List.mem_cons, List.not_mem_nil, or_false] at hz
    rcases hz with rfl | rfl
    · exact ⟨by decide, by decide, "java/lang/IllegalStateException", j0, hts _ (u_Lq_La _ k_La_24), hj0, Xm A s hE "java/lang/IllegalArgumentException" "java/lang/IllegalStateException" (by decide) k1 j0 z9 hj0⟩
    · exact ⟨by decide, by decide, "java/lang/IndexOutOfBoundsException", j1, hts _ (u_Lq_La _ k_La_29), hj1, Xm A s hE "java/lang/IllegalArgumentException" "java/lang/IndexOutOfBoundsException" (by decide) k1 j1 z9 hj1⟩
  refine x_catV (n := 2) (As := [.int p0, .int p1]) (rest := [.int 0, .ref ou]) (b := M.o_Vt) (st0 := [.int p1, .int p0, .ref M.o_Vt, .int 0, .ref ou]) ⟨hx, hb, hml, hown, hts⟩ (lt_Vt_cut_0 l hfl dC dI X _ h) (cwV 2 hts (gwV good_Lq (u_Lq_La _ k_La_63) (u_Lq_Vt _ k_Vt_194) (u_Lq_Vt _ k_Vt_195) (u_Lq_Vt _ k_Vt_0) (wcs (u_Lq_Vt _ k_Vt_196) u_Lq_Vq)) rfl rfl rfl (by decide +kernel) ⟨Nat.le_of_ble_eq_true rfl, Nat.le_of_ble_eq_true rfl⟩) (pv_ofE (X.same _) (fun U z1 z2 => X.mono _ _ U hFc (hEw _ _ hS U z1 z2)) hPc hKc hDc (va_recv hKc hPc (ci := 11) (q0 := 0) rfl rfl)) rfl hl.1 rfl (Nat.le_of_ble_eq_true rfl) d_La_cut_5 ⟨Nat.le_of_eq (Nat.zero_add _), Nat.le_of_eq (Nat.zero_add _)⟩ (E0 := "java/lang/IllegalArgumentException") (fun E st t z => z.1) ⟨k0, hk0⟩ (x := ⟨0, 10, 21, 13⟩) (pre := [⟨0, 10, 13, 19⟩, ⟨0, 10, 17, 25⟩]) (nm := "java/lang/IllegalArgumentException") (cn := k0) htab hmiss rfl (by decide) (hts _ (u_Lq_La _ k_La_19)) hk0 (fun k1 z9 => by rw [hk0] at z9; cases z9; exact x_refl _ _) (fun qx st t L z1 z2 z3 z4 z5 => ?_)
  have hS := x_catS hS z1 z3.2.1 hFc z5
  obtain ⟨Y1, hP1, -, hD1⟩ := z3.2.2
  obtain ⟨hP, hD⟩ := va_join (wr := [(ou, .inl (kL, 1, .inr (.inl oo)))]) (w1 := wV M Y1 G' S') hP hD [1, 2, 3, 4, 5, 6, 7, 8, 9, 10, 11, 12, 13, 14, 15, 16, 17, 18, 19, 20, 21, 22, 23, 24, 25, 26, 27, 28, 29, 30, 31, 32, 33, 34, 35, 36, 37, 38, 39, 40, 41, 42, 43, 44, 45] [0] rfl rfl (by decide) (by decide) (fun q a b => by have z := z3.2.1.2 q (by rw [z1]; exact a) b; rw [z1] at z; exact z) hFc hP1 hD1
  have hP : va_P (dC, dI) classes ((ou, .inl (kL, 1, .inr (.inl oo))) :: wV M Y1 G' S') t.heap := hP
  have hD : va_D A ((ou, .inl (kL, 1, .inr (.inl oo))) :: wV M Y1 G' S') := hD
  generalize t.heap = H at hP hS ⊢
  show W _ _ _ _ _ _ _ _ _ _ _ _ _ _ _ (F0 m 21 ls [.ref qx])
  refine W.widen (k := G'.gc - G0.gc) (n := G'.gs - G0.gs) (Nat.le_of_eq (Nat.zero_add _)) (Nat.le_of_eq (Nat.zero_add _)) ?_
  refine lv_astore (lv' := [(4, .ref qx), (0, .ref M.o_Vt), (1, .int p0), (2, .int p1), (3, .ref ou)]) hx hb d_La_cut_21 hl (by decide) rfl (fun ls hl => ?_)
  refine lv_iconst (v := 3) hx hb d_La_cut_23 (by decide) ?_
  exact W.iret (v := 3) hx hb hr (fun t ht hW => ⟨⟨3, Y1, rfl, rfl, by rw [ht]; exact hP, va_K.moved hW.alike hK, hD⟩, hS.F ht⟩) hS.2.2 d_La_cut_24
set_option maxHeartbeats 4000000 in
set_option maxRecDepth 100000 in
theorem la_cut_1 (l : Launch) (hfl : l.flags = pinnedFlags ++ [noTraceFlag]) (dC : Nat → ClassId) (dI : Nat → Nat → Nat) {K : Nat} {M : CA} {E : (Nat → Prop) → State → Prop} (X : ly_X l dC dI K M E) (sz : Nat) {Y : CT} {G0 G' : CG} {S S' : CS} (ou : Nat) (kL : ClassId) (oo : Nat → Int64) {p0 : Int32} {p1 : Int32} (h : f_Vt_cut K G0 S p0 p1 = some (.error 1, G', S')) : Met l y_La_cut (.codeWith y_La_cut b_La_cut 5 (some .int) [(0, 10, 13, 19), (0, 10, 17, 25), (0, 10, 21, 13)] :: V_Lq) ({ frames := 9, cells := G'.gc - G0.gc, slots := G'.gs - G0.gs, locals := 247 }) (va_Pc [.ref M.o_Vt, .int p0, .int p1, .ref ou] (fun U => U.heap.size = sz ∧ at_ (dC, dI) (fun _ => True) ((ou, .inl (kL, 1, .inr (.inl oo))) :: wV M Y G0 S) ((kL, .long) :: tV M) U ∧ E (va_A ((ou, .inl (kL, 1, .inr (.inl oo))) :: wV M Y G0 S) sz) U)) (va_Qi (fun (r_ : Int32) (u : CT) => r_ = 1) (fun (u : CT) t => at_ (dC, dI) (va_A ((ou, .inl (kL, 1, .inr (.inl oo))) :: wV M Y G0 S) sz) ((ou, .inl (kL, 1, .inr (.inl oo))) :: wV M u G' S') ((kL, .long) :: tV M) t) (va_A ((ou, .inl (kL, 1, .inr (.inl oo))) :: wV M Y G0 S) sz)) (G'.gc - G0.gc) (G'.gs - G0.gs) (va_A ((ou, .inl (kL, 1, .inr (.inl oo))) :: wV M Y G0 S) sz) := by
  refine MetW.ofW (handlers := [(0, 10, 13, 19), (0, 10, 17, 25), (0, 10, 21, 13)]) (cc := b_La_cut) (maxL := 5) (ret := (some .int)) (by decide) rfl ?_
  intro p e s m args below meth c s₁ B hml htab hv
  obtain ⟨rfl, hsz, ⟨hP, hK, hD0⟩, hE⟩ := hv
  have hx := B.exec
  have hb := B.bytes
  have hr := B.returns
  have hlocks := B.notSynchronized
  have hts0 := atoms_spec (ws := .codeWith y_La_cut b_La_cut 5 (some .int) [(0, 10, 13, 19), (0, 10, 17, 25), (0, 10, 21, 13)] :: V_Lq) B.pre
  have hts : ∀ w ∈ V_Lq, w.before ([.ref M.o_Vt, .int p0, .int p1, .ref ou] : List Value).toArray s = true := fun w h => hts0 w (List.mem_cons_of_mem _ h)
  have hown : s.vm.findClass R_La = some m.cls := findClass_of_methodNamed B.named
  subst hsz
  have hD := hD0.self (sz := s.heap.size)
  generalize hAe : va_A ((ou, .inl (kL, 1, .inr (.inl oo))) :: wV M Y G0 S) s.heap.size = A at hD hE ⊢
  have hA : ∀ q : Nat, s.heap.size ≤ q → A q := fun q h => by rw [← hAe]; exact Or.inr h
  have hS : va_S A s.heap s.heap [] := va_S.rf
  have hP : va_P (dC, dI) classes ((ou, .inl (kL, 1, .inr (.inl oo))) :: wV M Y G0 S) s.heap := hP
  have hK : va_K (dC, dI) classes ((kL, .long) :: tV M) s := hK
  have hEw : ∀ (H : Heap) (locs : List Loc), va_S A s.heap H locs → ∀ U : State, U.heap = H → s.WarmedH U.vm → E A U := fun H locs hS U hU hW => X.kept A s U H locs hE hS hU hW
  have hl := lv_entry ([.ref M.o_Vt, .int p0, .int p1, .ref ou]) (n := 5) (Nat.le_of_ble_eq_true rfl)
  rw [lg_entry_eq]
  generalize (lg_sl ([.ref M.o_Vt, .int p0, .int p1, .ref ou]) ++ List.replicate (5 - (lg_sl ([.ref M.o_Vt, .int p0, .int p1, .ref ou])).length) Slot.unset).toArray = ls at hl ⊢
  have hl : lv_has ls 5 [(0, .ref M.o_Vt), (1, .int p0), (2, .int p1), (3, .ref ou)] := hl
  refine lv_aload_n hx hb d_La_cut_0 rfl (lv_at hl 3 rfl) ?_
  refine lv_iconst (v := 0) hx hb d_La_cut_1 (by decide) ?_
  refine lv_aload_n hx hb d_La_cut_2 rfl (lv_at hl 0 rfl) ?_
  refine lv_iload_n hx hb d_La_cut_3 rfl (lv_at hl 1 rfl) ?_
  refine lv_iload_n hx hb d_La_cut_4 rfl (lv_at hl 2 rfl) ?_
  have hPc := hP.sub (ws' := wV M Y G0 S) [1, 2, 3, 4, 5, 6, 7, 8, 9, 10, 11, 12, 13, 14, 15, 16, 17, 18, 19, 20, 21, 22, 23, 24, 25, 26, 27, 28, 29, 30, 31, 32, 33, 34, 35, 36, 37, 38, 39, 40, 41, 42, 43, 44, 45] rfl
  have hDc := hD.sub (ws' := wV M Y G0 S) [1, 2, 3, 4, 5, 6, 7, 8, 9, 10, 11, 12, 13, 14, 15, 16, 17, 18, 19, 20, 21, 22, 23, 24, 25, 26, 27, 28, 29, 30, 31, 32, 33, 34, 35, 36, 37, 38, 39, 40, 41, 42, 43, 44, 45] (by decide) rfl
  have hKc := hK.sub (tys' := tV M) [1, 2, 3] rfl
  have hFc := va_free (wc := wV M Y G0 S) hD hS hA [1, 2, 3, 4, 5, 6, 7, 8, 9, 10, 11, 12, 13, 14, 15, 16, 17, 18, 19, 20, 21, 22, 23, 24, 25, 26, 27, 28, 29, 30, 31, 32, 33, 34, 35, 36, 37, 38, 39, 40, 41, 42, 43, 44, 45] rfl
  obtain ⟨k0, hk0, -⟩ := classAt_of (hts _ (u_Lq_Vt _ k_Vt_115))
  refine x_catV (n := 2) (As := [.int p0, .int p1]) (rest := [.int 0, .ref ou]) (b := M.o_Vt) (st0 := [.int p1, .int p0, .ref M.o_Vt, .int 0, .ref ou]) ⟨hx, hb, hml, hown, hts⟩ (lt_Vt_cut_1 l hfl dC dI X _ h) (cwV 2 hts (gwV good_Lq (u_Lq_La _ k_La_63) (u_Lq_Vt _ k_Vt_194) (u_Lq_Vt _ k_Vt_195) (u_Lq_Vt _ k_Vt_0) (wcs (u_Lq_Vt _ k_Vt_196) u_Lq_Vq)) rfl rfl rfl (by decide +kernel) ⟨Nat.le_of_ble_eq_true rfl, Nat.le_of_ble_eq_true rfl⟩) (pv_ofE (X.same _) (fun U z1 z2 => X.mono _ _ U hFc (hEw _ _ hS U z1 z2)) hPc hKc hDc (va_recv hKc hPc (ci := 11) (q0 := 0) rfl rfl)) rfl hl.1 rfl (Nat.le_of_ble_eq_true rfl) d_La_cut_5 ⟨Nat.le_of_eq (Nat.zero_add _), Nat.le_of_eq (Nat.zero_add _)⟩ (E0 := "java/lang/IllegalStateException") (fun E st t z => z.1) ⟨k0, hk0⟩ (x := ⟨0, 10, 13, 19⟩) (pre := []) (nm := "java/lang/IllegalStateException") (cn := k0) htab (fun k1 z9 z hz => absurd hz List.not_mem_nil) rfl (by decide) (hts _ (u_Lq_La _ k_La_24)) hk0 (fun k1 z9 => by rw [hk0] at z9; cases z9; exact x_refl _ _) (fun qx st t L z1 z2 z3 z4 z5 => ?_)
  have hS := x_catS hS z1 z3.2.1 hFc z5
  obtain ⟨Y1, hP1, -, hD1⟩ := z3.2.2
  obtain ⟨hP, hD⟩ := va_join (wr := [(ou, .inl (kL, 1, .inr (.inl oo)))]) (w1 := wV M Y1 G' S') hP hD [1, 2, 3, 4, 5, 6, 7, 8, 9, 10, 11, 12, 13, 14, 15, 16, 17, 18, 19, 20, 21, 22, 23, 24, 25, 26, 27, 28, 29, 30, 31, 32, 33, 34, 35, 36, 37, 38, 39, 40, 41, 42, 43, 44, 45] [0] rfl rfl (by decide) (by decide) (fun q a b => by have z := z3.2.1.2 q (by rw [z1]; exact a) b; rw [z1] at z; exact z) hFc hP1 hD1
  have hP : va_P (dC, dI) classes ((ou, .inl (kL, 1, .inr (.inl oo))) :: wV M Y1 G' S') t.heap := hP
  have hD : va_D A ((ou, .inl (kL, 1, .inr (.inl oo))) :: wV M Y1 G' S') := hD
  generalize t.heap = H at hP hS ⊢
  show W _ _ _ _ _ _ _ _ _ _ _ _ _ _ _ (F0 m 13 ls [.ref qx])
  refine W.widen (k := G'.gc - G0.gc) (n := G'.gs - G0.gs) (Nat.le_of_eq (Nat.zero_add _)) (Nat.le_of_eq (Nat.zero_add _)) ?_
  refine lv_astore (lv' := [(4, .ref qx), (0, .ref M.o_Vt), (1, .int p0), (2, .int p1), (3, .ref ou)]) hx hb d_La_cut_13 hl (by decide) rfl (fun ls hl => ?_)
  refine lv_iconst (v := 1) hx hb d_La_cut_15 (by decide) ?_
  exact W.iret (v := 1) hx hb hr (fun t ht hW => ⟨⟨1, Y1, rfl, rfl, by rw [ht]; exact hP, va_K.moved hW.alike hK, hD⟩, hS.F ht⟩) hS.2.2 d_La_cut_16
set_option maxHeartbeats 4000000 in
set_option maxRecDepth 100000 in
theorem la_cut_2 (l : Launch) (hfl : l.flags = pinnedFlags ++ [noTraceFlag]) (dC : Nat → ClassId) (dI : Nat → Nat → Nat) {K : Nat} {M : CA} {E : (Nat → Prop) → State → Prop} (X : ly_X l dC dI K M E) (Xm : lz_miss E) (sz : Nat) {Y : CT} {G0 G' : CG} {S S' : CS} (ou : Nat) (kL : ClassId) (oo : Nat → Int64) {p0 : Int32} {p1 : Int32} (h : f_Vt_cut K G0 S p0 p1 = some (.error 2, G', S')) : Met l y_La_cut (.codeWith y_La_cut b_La_cut 5 (some .int) [(0, 10, 13, 19), (0, 10, 17, 25), (0, 10, 21, 13)] :: V_Lq) ({ frames := 9, cells := G'.gc - G0.gc, slots := G'.gs - G0.gs, locals := 247 }) (va_Pc [.ref M.o_Vt, .int p0, .int p1, .ref ou] (fun U => U.heap.size = sz ∧ at_ (dC, dI) (fun _ => True) ((ou, .inl (kL, 1, .inr (.inl oo))) :: wV M Y G0 S) ((kL, .long) :: tV M) U ∧ E (va_A ((ou, .inl (kL, 1, .inr (.inl oo))) :: wV M Y G0 S) sz) U)) (va_Qi (fun (r_ : Int32) (u : CT) => r_ = 2) (fun (u : CT) t => at_ (dC, dI) (va_A ((ou, .inl (kL, 1, .inr (.inl oo))) :: wV M Y G0 S) sz) ((ou, .inl (kL, 1, .inr (.inl oo))) :: wV M u G' S') ((kL, .long) :: tV M) t) (va_A ((ou, .inl (kL, 1, .inr (.inl oo))) :: wV M Y G0 S) sz)) (G'.gc - G0.gc) (G'.gs - G0.gs) (va_A ((ou, .inl (kL, 1, .inr (.inl oo))) :: wV M Y G0 S) sz) := by
  refine MetW.ofW (handlers := [(0, 10, 13, 19), (0, 10, 17, 25), (0, 10, 21, 13)]) (cc := b_La_cut) (maxL := 5) (ret := (some .int)) (by decide) rfl ?_
  intro p e s m args below meth c s₁ B hml htab hv
  obtain ⟨rfl, hsz, ⟨hP, hK, hD0⟩, hE⟩ := hv
  have hx := B.exec
  have hb := B.bytes
  have hr := B.returns
  have hlocks := B.notSynchronized
  have hts0 := atoms_spec (ws := .codeWith y_La_cut b_La_cut 5 (some .int) [(0, 10, 13, 19), (0, 10, 17, 25), (0, 10, 21, 13)] :: V_Lq) B.pre
  have hts : ∀ w ∈ V_Lq, w.before ([.ref M.o_Vt, .int p0, .int p1, .ref ou] : List Value).toArray s = true := fun w h => hts0 w (List.mem_cons_of_mem _ h)
  have hown : s.vm.findClass R_La = some m.cls := findClass_of_methodNamed B.named
  subst hsz
  have hD := hD0.self (sz := s.heap.size)
  generalize hAe : va_A ((ou, .inl (kL, 1, .inr (.inl oo))) :: wV M Y G0 S) s.heap.size = A at hD hE ⊢
  have hA : ∀ q : Nat, s.heap.size ≤ q → A q := fun q h => by rw [← hAe]; exact Or.inr h
  have hS : va_S A s.heap s.heap [] := va_S.rf
  have hP : va_P (dC, dI) classes ((ou, .inl (kL, 1, .inr (.inl oo))) :: wV M Y G0 S) s.heap := hP
  have hK : va_K (dC, dI) classes ((kL, .long) :: tV M) s := hK
  have hEw : ∀ (H : Heap) (locs : List Loc), va_S A s.heap H locs → ∀ U : State, U.heap = H → s.WarmedH U.vm → E A U := fun H locs hS U hU hW => X.kept A s U H locs hE hS hU hW
  have hl := lv_entry ([.ref M.o_Vt, .int p0, .int p1, .ref ou]) (n := 5) (Nat.le_of_ble_eq_true rfl)
  rw [lg_entry_eq]
  generalize (lg_sl ([.ref M.o_Vt, .int p0, .int p1, .ref ou]) ++ List.replicate (5 - (lg_sl ([.ref M.o_Vt, .int p0, .int p1, .ref ou])).length) Slot.unset).toArray = ls at hl ⊢
  have hl : lv_has ls 5 [(0, .ref M.o_Vt), (1, .int p0), (2, .int p1), (3, .ref ou)] := hl
  refine lv_aload_n hx hb d_La_cut_0 rfl (lv_at hl 3 rfl) ?_
  refine lv_iconst (v := 0) hx hb d_La_cut_1 (by decide) ?_
  refine lv_aload_n hx hb d_La_cut_2 rfl (lv_at hl 0 rfl) ?_
  refine lv_iload_n hx hb d_La_cut_3 rfl (lv_at hl 1 rfl) ?_
  refine lv_iload_n hx hb d_La_cut_4 rfl (lv_at hl 2 rfl) ?_
  have hPc := hP.sub (ws' := wV M Y G0 S) [1, 2, 3, 4, 5, 6, 7, 8, 9, 10, 11, 12, 13, 14, 15, 16, 17, 18, 19, 20, 21, 22, 23, 24, 25, 26, 27, 28, 29, 30, 31, 32, 33, 34, 35, 36, 37, 38, 39, 40, 41, 42, 43, 44, 45] rfl
  have hDc := hD.sub (ws' := wV M Y G0 S) [1, 2, 3, 4, 5, 6, 7, 8, 9, 10, 11, 12, 13, 14, 15, 16, 17, 18, 19, 20, 21, 22, 23, 24, 25, 26, 27, 28, 29, 30, 31, 32, 33, 34, 35, 36, 37, 38, 39, 40, 41, 42, 43, 44, 45] (by decide) rfl
  have hKc := hK.sub (tys' := tV M) [1, 2, 3] rfl
  have hFc := va_free (wc := wV M Y G0 S) hD hS hA [1, 2, 3, 4, 5, 6, 7, 8, 9, 10, 11, 12, 13, 14, 15, 16, 17, 18, 19, 20, 21, 22, 23, 24, 25, 26, 27, 28, 29, 30, 31, 32, 33, 34, 35, 36, 37, 38, 39, 40, 41, 42, 43, 44, 45] rfl
  obtain ⟨k0, hk0, -⟩ := classAt_of (hts _ (u_Lq_Vt _ k_Vt_126))
  obtain ⟨j0, hj0, -⟩ := classAt_of (hts _ (u_Lq_Vt _ k_Vt_115))
  have hmiss : ∀ k1, s.vm.findClass "java/lang/IndexOutOfBoundsException" = some k1 → ∀ z ∈ ([⟨0, 10, 13, 19⟩] : List ExceptionTableEntry), x_miss R_La ([.ref M.o_Vt, .int p0, .int p1, .ref ou] : List Value).toArray s k1 5 z := by
    intro k1 z9 z hz
    simp only [List.mem_cons, List.not_mem_nil, or_false] at hz
    subst hz
    exact ⟨by decide, by decide, "java/lang/IllegalStateException", j0, hts _ (u_Lq_La _ k_La_24), hj0, Xm A s hE "java/lang/IndexOutOfBoundsException" "java/lang/IllegalStateException" (by decide) k1 j0 z9 hj0⟩
  refine x_catV (n := 2) (As := [.int p0, .int p1]) (rest := [.int 0, .ref ou]) (b := M.o_Vt) (st0 := [.int p1, .int p0, .ref M.o_Vt, .int 0, .ref ou]) ⟨hx, hb, hml, hown, hts⟩ (lt_Vt_cut_2 l hfl dC dI X _ h) (cwV 2 hts (gwV good_Lq (u_Lq_La _ k_La_63) (u_Lq_Vt _ k_Vt_194) (u_Lq_Vt _ k_Vt_195) (u_Lq_Vt _ k_Vt_0) (wcs (u_Lq_Vt _ k_Vt_196) u_Lq_Vq)) rfl rfl rfl (by decide +kernel) ⟨Nat.le_of_ble_eq_true rfl, Nat.le_of_ble_eq_true rfl⟩) (pv_ofE (X.same _) (fun U z1 z2 => X.mono _ _ U hFc (hEw _ _ hS U z1 z2)) hPc hKc hDc (va_recv hKc hPc (ci := 11) (q0 := 0) rfl rfl)) rfl hl.1 rfl (Nat.le_of_ble_eq_true rfl) d_La_cut_5 ⟨Nat.le_of_eq (Nat.zero_add _), Nat.le_of_eq (Nat.zero_add _)⟩ (E0 := "java/lang/IndexOutOfBoundsException") (fun E st t z => z.1) ⟨k0, hk0⟩ (x := ⟨0, 10, 17, 25⟩) (pre := [⟨0, 10, 13, 19⟩]) (nm := "java/lang/IndexOutOfBoundsException") (cn := k0) htab hmiss rfl (by decide) (hts _ (u_Lq_La _ k_La_29)) hk0 (fun k1 z9 => by rw [hk0] at z9; cases z9; exact x_refl _ _) (fun qx st t L z1 z2 z3 z4 z5 => ?_)
  have hS := x_catS hS z1 z3.2.1 hFc z5
  obtain ⟨Y1, hP1, -, hD1⟩ := z3.2.2
  obtain ⟨hP, hD⟩ := va_join (wr := [(ou, .inl (kL, 1, .inr (.inl oo)))]) (w1 := wV M Y1 G' S') hP hD [1, 2, 3, 4, 5, 6, 7, 8, 9, 10, 11, 12, 13, 14, 15, 16, 17, 18, 19, 20, 21, 22, 23, 24, 25, 26, 27, 28, 29, 30, 31, 32, 33, 34, 35, 36, 37, 38, 39, 40, 41, 42, 43, 44, 45] [0] rfl rfl (by decide) (by decide) (fun q a b => by have z := z3.2.1.2 q (by rw [z1]; exact a) b; rw [z1] at z; exact z) hFc hP1 hD1
  have hP : va_P (dC, dI) classes ((ou, .inl (kL, 1, .inr (.inl oo))) :: wV M Y1 G' S') t.heap := hP
  have hD : va_D A ((ou, .inl (kL, 1, .inr (.inl oo))) :: wV M Y1 G' S') := hD
  generalize t.heap = H at hP hS ⊢
  show W _ _ _ _ _ _ _ _ _ _ _ _ _ _ _ (F0 m 17 ls [.ref qx])
  refine W.widen (k := G'.gc - G0.gc) (n := G'.gs - G0.gs) (Nat.le_of_eq (Nat.zero_add _)) (Nat.le_of_eq (Nat.zero_add _)) ?_
  refine lv_astore (lv' := [(4, .ref qx), (0, .ref M.o_Vt), (1, .int p0), (2, .int p1), (3, .ref ou)]) hx hb d_La_cut_17 hl (by decide) rfl (fun ls hl => ?_)
  refine lv_iconst (v := 2) hx hb d_La_cut_19 (by decide) ?_
  exact W.iret (v := 2) hx hb hr (fun t ht hW => ⟨⟨2, Y1, rfl, rfl, by rw [ht]; exact hP, va_K.moved hW.alike hK, hD⟩, hS.F ht⟩) hS.2.2 d_La_cut_20
set_option maxHeartbeats 4000000 in
set_option maxRecDepth 100000 in
theorem la_remove_ok (l : Launch) (hfl : l.flags = pinnedFlags ++ [noTraceFlag]) (dC : Nat → ClassId) (dI : Nat → Nat → Nat) {K : Nat} {M : CA} {E : (Nat → Prop) → State → Prop} (X : ly_X l dC dI K M E) (sz : Nat) {Y : CT} {G0 G' : CG} {S S' : CS} {p0 : Int32} (h : f_Vt_remove K G0 S p0 = some (.ok (), G', S')) : Met l y_La_remove (.codeWith y_La_remove b_La_remove 3 (some .int) [(0, 5, 8, 19), (0, 5, 11, 25), (0, 5, 14, 13)] :: V_Lq) ({ frames := 9, cells := G'.gc - G0.gc, slots := G'.gs - G0.gs, locals := 246 }) (va_Pc [.ref M.o_Vt, .int p0] (fun U => U.heap.size = sz ∧ at_ (dC, dI) (fun _ => True) (wV M Y G0 S) (tV M) U ∧ E (va_A (wV M Y G0 S) sz) U)) (va_Qi (fun (r_ : Int32) (u : CT) => r_ = 0) (fun (u : CT) t => at_ (dC, dI) (va_A (wV M Y G0 S) sz) (wV M u G' S') (tV M) t) (va_A (wV M Y G0 S) sz)) (G'.gc - G0.gc) (G'.gs - G0.gs) (va_A (wV M Y G0 S) sz) := by
  refine MetW.ofW (handlers := [(0, 5, 8, 19), (0, 5, 11, 25), (0, 5, 14, 13)]) (cc := b_La_remove) (maxL := 3) (ret := (some .int)) (by decide) rfl ?_
  intro p e s m args below meth c s₁ B hml htab hv
  obtain ⟨rfl, hsz, ⟨hP, hK, hD0⟩, hE⟩ := hv
  have hx := B.exec
  have hb := B.bytes
  have hr := B.returns
  have hlocks := B.notSynchronized
  have hts0 := atoms_spec (ws := .codeWith y_La_remove b_La_remove 3 (some .int) [(0, 5, 8, 19), (0, 5, 11, 25), (0, 5, 14, 13)] :: V_Lq) B.pre
  have hts : ∀ w ∈ V_Lq, w.before ([.ref M.o_Vt, .int p0] : List Value).toArray s = true := fun w h => hts0 w (List.mem_cons_of_mem _ h)
  have hown : s.vm.findClass R_La = some m.cls := findClass_of_methodNamed B.named
  subst hsz
  have hD := hD0.self (sz := s.heap.size)
  generalize hAe : va_A (wV M Y G0 S) s.heap.size = A at hD hE ⊢
  have hA : ∀ q : Nat, s.heap.size ≤ q → A q := fun q h => by rw [← hAe]; exact Or.inr h
  have hS : va_S A s.heap s.heap [] := va_S.rf
  have hP : va_P (dC, dI) classes (wV M Y G0 S) s.heap := hP
  have hK : va_K (dC, dI) classes (tV M) s := hK
  have hEw : ∀ (H : Heap) (locs : List Loc), va_S A s.heap H locs → ∀ U : State, U.heap = H → s.WarmedH U.vm → E A U := fun H locs hS U hU hW => X.kept A s U H locs hE hS hU hW
  have hl := lv_entry ([.ref M.o_Vt, .int p0]) (n := 3) (Nat.le_of_ble_eq_true rfl)
  rw [lg_entry_eq]
  generalize (lg_sl ([.ref M.o_Vt, .int p0]) ++ List.replicate (3 - (lg_sl ([.ref M.o_Vt, .int p0])).length) Slot.unset).toArray = ls at hl ⊢
  have hl : lv_has ls 3 [(0, .ref M.o_Vt), (1, .int p0)] := hl
  refine lv_aload_n hx hb d_La_remove_0 rfl (lv_at hl 0 rfl) ?_
  refine lv_iload_n hx hb d_La_remove_1 rfl (lv_at hl 1 rfl) ?_
  have hPc := hP.sub (ws' := wV M Y G0 S) [0, 1, 2, 3, 4, 5, 6, 7, 8, 9, 10, 11, 12, 13, 14, 15, 16, 17, 18, 19, 20, 21, 22, 23, 24, 25, 26, 27, 28, 29, 30, 31, 32, 33, 34, 35, 36, 37, 38, 39, 40, 41, 42, 43, 44] rfl
  have hDc := hD.sub (ws' := wV M Y G0 S) [0, 1, 2, 3, 4, 5, 6, 7, 8, 9, 10, 11, 12, 13, 14, 15, 16, 17, 18, 19, 20, 21, 22, 23, 24, 25, 26, 27, 28, 29, 30, 31, 32, 33, 34, 35, 36, 37, 38, 39, 40, 41, 42, 43, 44] (by decide) rfl
  have hKc := hK.sub (tys' := tV M) [0, 1, 2] rfl
  have hFc := va_free (wc := wV M Y G0 S) hD hS hA [0, 1, 2, 3, 4, 5, 6, 7, 8, 9, 10, 11, 12, 13, 14, 15, 16, 17, 18, 19, 20, 21, 22, 23, 24, 25, 26, 27, 28, 29, 30, 31, 32, 33, 34, 35, 36, 37, 38, 39, 40, 41, 42, 43, 44] rfl
  refine va_callv (va_runV (As := [.int p0]) (rest := []) ⟨hx, hb, hml, hown, hts⟩ (l_Vt_remove l dC dI X _ h) (cwV 1 hts (gwV good_Lq (u_Lq_La _ k_La_67) (u_Lq_Vt _ k_Vt_198) (u_Lq_Vt _ k_Vt_199) (u_Lq_Vt _ k_Vt_0) (wcs (u_Lq_Vt _ k_Vt_200) u_Lq_Vq)) rfl rfl rfl (by decide +kernel) ⟨Nat.le_of_ble_eq_true rfl, Nat.le_of_ble_eq_true rfl⟩) (pv_ofE (X.same _) (fun U z1 z2 => X.mono _ _ U hFc (hEw _ _ hS U z1 z2)) hPc hKc hDc (va_recv hKc hPc (ci := 11) (q0 := 0) rfl rfl)) rfl rfl hl.1 rfl (lv_room (Nat.le_of_ble_eq_true rfl)) d_La_remove_2 ⟨Nat.le_of_eq (Nat.zero_add _), Nat.le_of_eq (Nat.zero_add _)⟩) hS (fun q _ h => hFc q h) hFc (fun Y1 t H locs ht hvm hw hB hz1 hk1 hS => ?_)
  obtain ⟨hP1, -, hD1⟩ := hB
  rw [ht] at hP1
  obtain ⟨hP, hD⟩ := va_join (wr := []) (w1 := wV M Y1 G' S') hP hD [0, 1, 2, 3, 4, 5, 6, 7, 8, 9, 10, 11, 12, 13, 14, 15, 16, 17, 18, 19, 20, 21, 22, 23, 24, 25, 26, 27, 28, 29, 30, 31, 32, 33, 34, 35, 36, 37, 38, 39, 40, 41, 42, 43, 44] [] rfl rfl (by decide) (by decide) hk1 hFc hP1 hD1
  refine W.widen (k := G'.gc - G0.gc) (n := G'.gs - G0.gs) (Nat.le_of_eq (Nat.zero_add _)) (Nat.le_of_eq (Nat.zero_add _)) ?_
  have hP : va_P (dC, dI) classes (wV M Y1 G' S') H := hP
  have hD : va_D A (wV M Y1 G' S') := hD
  refine lv_goto (tgt := 17) hx hb d_La_remove_5 (by decide) ?_
  refine lv_iconst (v := 0) hx hb d_La_remove_17 (by decide) ?_
  exact W.iret (v := 0) hx hb hr (fun t ht hW => ⟨⟨0, Y1, rfl, rfl, by rw [ht]; exact hP, va_K.moved hW.alike hK, hD⟩, hS.F ht⟩) hS.2.2 d_La_remove_18
set_option maxHeartbeats 4000000 in
set_option maxRecDepth 100000 in
theorem la_remove_0 (l : Launch) (hfl : l.flags = pinnedFlags ++ [noTraceFlag]) (dC : Nat → ClassId) (dI : Nat → Nat → Nat) {K : Nat} {M : CA} {E : (Nat → Prop) → State → Prop} (X : ly_X l dC dI K M E) (Xm : lz_miss E) (sz : Nat) {Y : CT} {G0 G' : CG} {S S' : CS} {p0 : Int32} (h : f_Vt_remove K G0 S p0 = some (.error 0, G', S')) : Met l y_La_remove (.codeWith y_La_remove b_La_remove 3 (some .int) [(0, 5, 8, 19), (0, 5, 11, 25), (0, 5, 14, 13)] :: V_Lq) ({ frames := 9, cells := G'.gc - G0.gc, slots := G'.gs - G0.gs, locals := 246 }) (va_Pc [.ref M.o_Vt, .int p0] (fun U => U.heap.size = sz ∧ at_ (dC, dI) (fun _ => True) (wV M Y G0 S) (tV M) U ∧ E (va_A (wV M Y G0 S) sz) U)) (va_Qi (fun (r_ : Int32) (u : CT) => r_ = 3) (fun (u : CT) t => at_ (dC, dI) (va_A (wV M Y G0 S) sz) (wV M u G' S') (tV M) t) (va_A (wV M Y G0 S) sz)) (G'.gc - G0.gc) (G'.gs - G0.gs) (va_A (wV M Y G0 S) sz) := by
  refine MetW.ofW (handlers := [(0, 5, 8, 19), (0, 5, 11, 25), (0, 5, 14, 13)]) (cc := b_La_remove) (maxL := 3) (ret := (some .int)) (by decide) rfl ?_
  intro p e s m args below meth c s₁ B hml htab hv
  obtain ⟨rfl, hsz, ⟨hP, hK, hD0⟩, hE⟩ := hv
  have hx := B.exec
  have hb := B.bytes
  have hr := B.returns
  have hlocks := B.notSynchronized
  have hts0 := atoms_spec (ws := .codeWith y_La_remove b_La_remove 3 (some .int) [(0, 5, 8, 19), (0, 5, 11, 25), (0, 5, 14, 13)] :: V_Lq) B.pre
  have hts : ∀ w ∈ V_Lq, w.before ([.ref M.o_Vt, .int p0] : List Value).toArray s = true := fun w h => hts0 w (List.mem_cons_of_mem _ h)
  have hown : s.vm.findClass R_La = some m.cls := findClass_of_methodNamed B.named
  subst hsz
  have hD := hD0.self (sz := s.heap.size)
  generalize hAe : va_A (wV M Y G0 S) s.heap.size = A at hD hE ⊢
  have hA : ∀ q : Nat, s.heap.size ≤ q → A q := fun q h => by rw [← hAe]; exact Or.inr h
  have hS : va_S A s.heap s.heap [] := va_S.rf
  have hP : va_P (dC, dI) classes (wV M Y G0 S) s.heap := hP
  have hK : va_K (dC, dI) classes (tV M) s := hK
  have hEw : ∀ (H : Heap) (locs : List Loc), va_S A s.heap H locs → ∀ U : State, U.heap = H → s.WarmedH U.vm → E A U := fun H locs hS U hU hW => X.kept A s U H locs hE hS hU hW
  have hl := lv_entry ([.ref M.o_Vt, .int p0]) (n := 3) (Nat.le_of_ble_eq_true rfl)
  rw [lg_entry_eq]
  generalize (lg_sl ([.ref M.o_Vt, .int p0]) ++ List.replicate (3 - (lg_sl ([.ref M.o_Vt, .int p0])).length) Slot.unset).toArray = ls at hl ⊢
  have hl : lv_has ls 3 [(0, .ref M.o_Vt), (1, .int p0)] := hl
  refine lv_aload_n hx hb d_La_remove_0 rfl (lv_at hl 0 rfl) ?_
  refine lv_iload_n hx hb d_La_remove_1 rfl (lv_at hl 1 rfl) ?_
  have hPc := hP.sub (ws' := wV M Y G0 S) [0, 1, 2, 3, 4, 5, 6, 7, 8, 9, 10, 11, 12, 13, 14, 15, 16, 17, 18, 19, 20, 21, 22, 23, 24, 25, 26, 27, 28, 29, 30, 31, 32, 33, 34, 35, 36, 37, 38, 39, 40, 41, 42, 43, 44] rfl
  have hDc := hD.sub (ws' := wV M Y G0 S) [0, 1, 2, 3, 4, 5, 6, 7, 8, 9, 10, 11, 12, 13, 14, 15, 16, 17, 18, 19, 20, 21, 22, 23, 24, 25, 26, 27, 28, 29, 30, 31, 32, 33, 34, 35, 36, 37, 38, 39, 40, 41, 42, 43, 44] (by decide) rfl
  have hKc := hK.sub (tys' := tV M) [0, 1, 2] rfl
  have hFc := va_free (wc := wV M Y G0 S) hD hS hA [0, 1, 2, 3, 4, 5, 6, 7, 8, 9, 10, 11, 12, 13, 14, 15, 16, 17, 18, 19, 20, 21, 22, 23, 24, 25, 26, 27, 28, 29, 30, 31, 32, 33, 34, 35, 36, 37, 38, 39, 40, 41, 42, 43, 44] rfl
  obtain ⟨k0, hk0, -⟩ := classAt_of (hts _ (u_Lq_Vt _ k_Vt_101))
  obtain ⟨j0, hj0, -⟩ := classAt_of (hts _ (u_Lq_Vt _ k_Vt_115))
  obtain ⟨j1, hj1, -⟩ := classAt_of (hts _ (u_Lq_Vt _ k_Vt_126))
  have hmiss : ∀ k1, s.vm.findClass "java/lang/IllegalArgumentException" = some k1 → ∀ z ∈ ([⟨0, 5, 8, 19⟩, ⟨0, 5, 11, 25⟩] : List ExceptionTableEntry), x_miss R_La ([.ref M.o_Vt, .int p0] : List Value).toArray s k1 2 z := by
    intro k1 z9 z hz
    simp only [List.mem_cons, List.not_mem_nil, or_false] at hz
    rcases hz with rfl | rfl
    · exact ⟨by decide, by decide, "java/lang/IllegalStateException", j0, hts _ (u_Lq_La _ k_La_24), hj0, Xm A s hE "java/lang/IllegalArgumentException" "java/lang/IllegalStateException" (by decide) k1 j0 z9 hj0⟩
    · exact ⟨by decide, by decide, "java/lang/IndexOutOfBoundsException", j1, hts _ (u_Lq_La _ k_La_29), hj1, Xm A s hE "java/lang/IllegalArgumentException" "java/lang/IndexOutOfBoundsException" (by decide) k1 j1 z9 hj1⟩
  refine x_catV (n := 1) (As := [.int p0]) (rest := []) (b := M.o_Vt) (st0 := [.int p0, .ref M.o_Vt]) ⟨hx, hb, hml, hown, hts⟩ (lt_Vt_remove_0 l hfl dC dI X _ h) (cwV 1 hts (gwV good_Lq (u_Lq_La _ k_La_67) (u_Lq_Vt _ k_Vt_198) (u_Lq_Vt _ k_Vt_199) (u_Lq_Vt _ k_Vt_0) (wcs (u_Lq_Vt _ k_Vt_200) u_Lq_Vq)) rfl rfl rfl (by decide +kernel) ⟨Nat.le_of_ble_eq_true rfl, Nat.le_of_ble_eq_true rfl⟩) (pv_ofE (X.same _) (fun U z1 z2 => X.mono _ _ U hFc (hEw _ _ hS U z1 z2)) hPc hKc hDc (va_recv hKc hPc (ci := 11) (q0 := 0) rfl rfl)) rfl hl.1 rfl (Nat.le_of_ble_eq_true rfl) d_La_remove_2 ⟨Nat.le_of_eq (Nat.zero_add _), Nat.le_of_eq (Nat.zero_add _)⟩ (E0 := "java/lang/IllegalArgumentException") (fun E st t z => z.1) ⟨k0, hk0⟩ (x := ⟨0, 5, 14, 13⟩) (pre := [⟨0, 5, 8, 19⟩, ⟨0, 5, 11, 25⟩]) (nm := "java/lang/IllegalArgumentException") (cn := k0) htab hmiss rfl (by decide) (hts _ (u_Lq_La _ k_La_19)) hk0 (fun k1 z9 => by rw [hk0] at z9; cases z9; exact x_refl _ _) (fun qx st t L z1 z2 z3 z4 z5 => ?_)
  have hS := x_catS hS z1 z3.2.1 hFc z5
  obtain ⟨Y1, hP1, -, hD1⟩ := z3.2.2
  obtain ⟨hP, hD⟩ := va_join (wr := []) (w1 := wV M Y1 G' S') hP hD [0, 1, 2, 3, 4, 5, 6, 7, 8, 9, 10, 11, 12, 13, 14, 15, 16, 17, 18, 19, 20, 21, 22, 23, 24, 25, 26, 27, 28, 29, 30, 31, 32, 33, 34, 35, 36, 37, 38, 39, 40, 41, 42, 43, 44] [] rfl rfl (by decide) (by decide) (fun q a b => by have z := z3.2.1.2 q (by rw [z1]; exact a) b; rw [z1] at z; exact z) hFc hP1 hD1
  have hP : va_P (dC, dI) classes (wV M Y1 G' S') t.heap := hP
  have hD : va_D A (wV M Y1 G' S') := hD
  generalize t.heap = H at hP hS ⊢
  show W _ _ _ _ _ _ _ _ _ _ _ _ _ _ _ (F0 m 14 ls [.ref qx])
  refine W.widen (k := G'.gc - G0.gc) (n := G'.gs - G0.gs) (Nat.le_of_eq (Nat.zero_add _)) (Nat.le_of_eq (Nat.zero_add _)) ?_
  refine lv_astore_n (lv' := [(2, .ref qx), (0, .ref M.o_Vt), (1, .int p0)]) hx hb d_La_remove_14 rfl hl (by decide) rfl (fun ls hl => ?_)
  refine lv_iconst (v := 3) hx hb d_La_remove_15 (by decide) ?_
  exact W.iret (v := 3) hx hb hr (fun t ht hW => ⟨⟨3, Y1, rfl, rfl, by rw [ht]; exact hP, va_K.moved hW.alike hK, hD⟩, hS.F ht⟩) hS.2.2 d_La_remove_16
set_option maxHeartbeats 4000000 in
set_option maxRecDepth 100000 in
theorem la_remove_1 (l : Launch) (hfl : l.flags = pinnedFlags ++ [noTraceFlag]) (dC : Nat → ClassId) (dI : Nat → Nat → Nat) {K : Nat} {M : CA} {E : (Nat → Prop) → State → Prop} (X : ly_X l dC dI K M E) (sz : Nat) {Y : CT} {G0 G' : CG} {S S' : CS} {p0 : Int32} (h : f_Vt_remove K G0 S p0 = some (.error 1, G', S')) : Met l y_La_remove (.codeWith y_La_remove b_La_remove 3 (some .int) [(0, 5, 8, 19), (0, 5, 11, 25), (0, 5, 14, 13)] :: V_Lq) ({ frames := 9, cells := G'.gc - G0.gc, slots := G'.gs - G0.gs, locals := 246 }) (va_Pc [.ref M.o_Vt, .int p0] (fun U => U.heap.size = sz ∧ at_ (dC, dI) (fun _ => True) (wV M Y G0 S) (tV M) U ∧ E (va_A (wV M Y G0 S) sz) U)) (va_Qi (fun (r_ : Int32) (u : CT) => r_ = 1) (fun (u : CT) t => at_ (dC, dI) (va_A (wV M Y G0 S) sz) (wV M u G' S') (tV M) t) (va_A (wV M Y G0 S) sz)) (G'.gc - G0.gc) (G'.gs - G0.gs) (va_A (wV M Y G0 S) sz) := by
  refine MetW.ofW (handlers := [(0, 5, 8, 19), (0, 5, 11, 25), (0, 5, 14, 13)]) (cc := b_La_remove) (maxL := 3) (ret := (some .int)) (by decide) rfl ?_
  intro p e s m args below meth c s₁ B hml htab hv
  obtain ⟨rfl, hsz, ⟨hP, hK, hD0⟩, hE⟩ := hv
  have hx := B.exec
  have hb := B.bytes
  have hr := B.returns
  have hlocks := B.notSynchronized
  have hts0 := atoms_spec (ws := .codeWith y_La_remove b_La_remove 3 (some .int) [(0, 5, 8, 19), (0, 5, 11, 25), (0, 5, 14, 13)] :: V_Lq) B.pre
  have hts : ∀ w ∈ V_Lq, w.before ([.ref M.o_Vt, .int p0] : List Value).toArray s = true := fun w h => hts0 w (List.mem_cons_of_mem _ h)
  have hown : s.vm.findClass R_La = some m.cls := findClass_of_methodNamed B.named
  subst hsz
  have hD := hD0.self (sz := s.heap.size)
  generalize hAe : va_A (wV M Y G0 S) s.heap.size = A at hD hE ⊢
  have hA : ∀ q : Nat, s.heap.size ≤ q → A q := fun q h => by rw [← hAe]; exact Or.inr h
  have hS : va_S A s.heap s.heap [] := va_S.rf
  have hP : va_P (dC, dI) classes (wV M Y G0 S) s.heap := hP
  have hK : va_K (dC, dI) classes (tV M) s := hK
  have hEw : ∀ (H : Heap) (locs : List Loc), va_S A s.heap H locs → ∀ U : State, U.heap = H → s.WarmedH U.vm → E A U := fun H locs hS U hU hW => X.kept A s U H locs hE hS hU hW
  have hl := lv_entry ([.ref M.o_Vt, .int p0]) (n := 3) (Nat.le_of_ble_eq_true rfl)
  rw [lg_entry_eq]
  generalize (lg_sl ([.ref M.o_Vt, .int p0]) ++ List.replicate (3 - (lg_sl ([.ref M.o_Vt, .int p0])).length) Slot.unset).toArray = ls at hl ⊢
  have hl : lv_has ls 3 [(0, .ref M.o_Vt), (1, .int p0)] := hl
  refine lv_aload_n hx hb d_La_remove_0 rfl (lv_at hl 0 rfl) ?_
  refine lv_iload_n hx hb d_La_remove_1 rfl (lv_at hl 1 rfl) ?_
  have hPc := hP.sub (ws' := wV M Y G0 S) [0, 1, 2, 3, 4, 5, 6, 7, 8, 9, 10, 11, 12, 13, 14, 15, 16, 17, 18, 19, 20, 21, 22, 23, 24, 25, 26, 27, 28, 29, 30, 31, 32, 33, 34, 35, 36, 37, 38, 39, 40, 41, 42, 43, 44] rfl
  have hDc := hD.sub (ws' := wV M Y G0 S) [0, 1, 2, 3, 4, 5, 6, 7, 8, 9, 10, 11, 12, 13, 14, 15, 16, 17, 18, 19, 20, 21, 22, 23, 24, 25, 26, 27, 28, 29, 30, 31, 32, 33, 34, 35, 36, 37, 38, 39, 40, 41, 42, 43, 44] (by decide) rfl
  have hKc := hK.sub (tys' := tV M) [0, 1, 2] rfl
  have hFc := va_free (wc := wV M Y G0 S) hD hS hA [0, 1, 2, 3, 4, 5, 6, 7, 8, 9, 10, 11, 12, 13, 14, 15, 16, 17, 18, 19, 20, 21, 22, 23, 24, 25, 26, 27, 28, 29, 30, 31, 32, 33, 34, 35, 36, 37, 38, 39, 40, 41, 42, 43, 44] rfl
  obtain ⟨k0, hk0, -⟩ := classAt_of (hts _ (u_Lq_Vt _ k_Vt_115))
  refine x_catV (n := 1) (As := [.int p0]) (rest := []) (b := M.o_Vt) (st0 := [.int p0, .ref M.o_Vt]) ⟨hx, hb, hml, hown, hts⟩ (lt_Vt_remove_1 l hfl dC dI X _ h) (cwV 1 hts (gwV good_Lq (u_Lq_La _ k_La_67) (u_Lq_Vt _ k_Vt_198) (u_Lq_Vt _ k_Vt_199) (u_Lq_Vt _ k_Vt_0) (wcs (u_Lq_Vt _ k_Vt_200) u_Lq_Vq)) rfl rfl rfl (by decide +kernel) ⟨Nat.le_of_ble_eq_true rfl, Nat.le_of_ble_eq_true rfl⟩) (pv_ofE (X.same _) (fun U z1 z2 => X.mono _ _ U hFc (hEw _ _ hS U z1 z2)) hPc hKc hDc (va_recv hKc hPc (ci := 11) (q0 := 0) rfl rfl)) rfl hl.1 rfl (Nat.le_of_ble_eq_true rfl) d_La_remove_2 ⟨Nat.le_of_eq (Nat.zero_add _), Nat.le_of_eq (Nat.zero_add _)⟩ (E0 := "java/lang/IllegalStateException") (fun E st t z => z.1) ⟨k0, hk0⟩ (x := ⟨0, 5, 8, 19⟩) (pre := []) (nm := "java/lang/IllegalStateException") (cn := k0) htab (fun k1 z9 z hz => absurd hz List.not_mem_nil) rfl (by decide) (hts _ (u_Lq_La _ k_La_24)) hk0 (fun k1 z9 => by rw [hk0] at z9; cases z9; exact x_refl _ _) (fun qx st t L z1 z2 z3 z4 z5 => ?_)
  have hS := x_catS hS z1 z3.2.1 hFc z5
  obtain ⟨Y1, hP1, -, hD1⟩ := z3.2.2
  obtain ⟨hP, hD⟩ := va_join (wr := []) (w1 := wV M Y1 G' S') hP hD [0, 1, 2, 3, 4, 5, 6, 7, 8, 9, 10, 11, 12, 13, 14, 15, 16, 17, 18, 19, 20, 21, 22, 23, 24, 25, 26, 27, 28, 29, 30, 31, 32, 33, 34, 35, 36, 37, 38, 39, 40, 41, 42, 43, 44] [] rfl rfl (by decide) (by decide) (fun q a b => by have z := z3.2.1.2 q (by rw [z1]; exact a) b; rw [z1] at z; exact z) hFc hP1 hD1
  have hP : va_P (dC, dI) classes (wV M Y1 G' S') t.heap := hP
  have hD : va_D A (wV M Y1 G' S') := hD
  generalize t.heap = H at hP hS ⊢
  show W _ _ _ _ _ _ _ _ _ _ _ _ _ _ _ (F0 m 8 ls [.ref qx])
  refine W.widen (k := G'.gc - G0.gc) (n := G'.gs - G0.gs) (Nat.le_of_eq (Nat.zero_add _)) (Nat.le_of_eq (Nat.zero_add _)) ?_
  refine lv_astore_n (lv' := [(2, .ref qx), (0, .ref M.o_Vt), (1, .int p0)]) hx hb d_La_remove_8 rfl hl (by decide) rfl (fun ls hl => ?_)
  refine lv_iconst (v := 1) hx hb d_La_remove_9 (by decide) ?_
  exact W.iret (v := 1) hx hb hr (fun t ht hW => ⟨⟨1, Y1, rfl, rfl, by rw [ht]; exact hP, va_K.moved hW.alike hK, hD⟩, hS.F ht⟩) hS.2.2 d_La_remove_10
set_option maxHeartbeats 4000000 in
set_option maxRecDepth 100000 in
theorem la_remove_2 (l : Launch) (hfl : l.flags = pinnedFlags ++ [noTraceFlag]) (dC : Nat → ClassId) (dI : Nat → Nat → Nat) {K : Nat} {M : CA} {E : (Nat → Prop) → State → Prop} (X : ly_X l dC dI K M E) (Xm : lz_miss E) (sz : Nat) {Y : CT} {G0 G' : CG} {S S' : CS} {p0 : Int32} (h : f_Vt_remove K G0 S p0 = some (.error 2, G', S')) : Met l y_La_remove (.codeWith y_La_remove b_La_remove 3 (some .int) [(0, 5, 8, 19), (0, 5, 11, 25), (0, 5, 14, 13)] :: V_Lq) ({ frames := 9, cells := G'.gc - G0.gc, slots := G'.gs - G0.gs, locals := 246 }) (va_Pc [.ref M.o_Vt, .int p0] (fun U => U.heap.size = sz ∧ at_ (dC, dI) (fun _ => True) (wV M Y G0 S) (tV M) U ∧ E (va_A (wV M Y G0 S) sz) U)) (va_Qi (fun (r_ : Int32) (u : CT) => r_ = 2) (fun (u : CT) t => at_ (dC, dI) (va_A (wV M Y G0 S) sz) (wV M u G' S') (tV M) t) (va_A (wV M Y G0 S) sz)) (G'.gc - G0.gc) (G'.gs - G0.gs) (va_A (wV M Y G0 S) sz) := by
  refine MetW.ofW (handlers := [(0, 5, 8, 19), (0, 5, 11, 25), (0, 5, 14, 13)]) (cc := b_La_remove) (maxL := 3) (ret := (some .int)) (by decide) rfl ?_
  intro p e s m args below meth c s₁ B hml htab hv
  obtain ⟨rfl, hsz, ⟨hP, hK, hD0⟩, hE⟩ := hv
  have hx := B.exec
  have hb := B.bytes
  have hr := B.returns
  have hlocks := B.notSynchronized
  have hts0 := atoms_spec (ws := .codeWith y_La_remove b_La_remove 3 (some .int) [(0, 5, 8, 19), (0, 5, 11, 25), (0, 5, 14, 13)] :: V_Lq) B.pre
  have hts : ∀ w ∈ V_Lq, w.before ([.ref M.o_Vt, .int p0] : List Value).toArray s = true := fun w h => hts0 w (List.mem_cons_of_mem _ h)
  have hown : s.vm.findClass R_La = some m.cls := findClass_of_methodNamed B.named
  subst hsz
  have hD := hD0.self (sz := s.heap.size)
  generalize hAe : va_A (wV M Y G0 S) s.heap.size = A at hD hE ⊢
  have hA : ∀ q : Nat, s.heap.size ≤ q → A q := fun q h => by rw [← hAe]; exact Or.inr h
  have hS : va_S A s.heap s.heap [] := va_S.rf
  have hP : va_P (dC, dI) classes (wV M Y G0 S) s.heap := hP
  have hK : va_K (dC, dI) classes (tV M) s := hK
  have hEw : ∀ (H : Heap) (locs : List Loc), va_S A s.heap H locs → ∀ U : State, U.heap = H → s.WarmedH U.vm → E A U := fun H locs hS U hU hW => X.kept A s U H locs hE hS hU hW
  have hl := lv_entry ([.ref M.o_Vt, .int p0]) (n := 3) (Nat.le_of_ble_eq_true rfl)
  rw [lg_entry_eq]
  generalize (lg_sl ([.ref M.o_Vt, .int p0]) ++ List.replicate (3 - (lg_sl ([.ref M.o_Vt, .int p0])).length) Slot.unset).toArray = ls at hl ⊢
  have hl : lv_has ls 3 [(0, .ref M.o_Vt), (1, .int p0)] := hl
  refine lv_aload_n hx hb d_La_remove_0 rfl (lv_at hl 0 rfl) ?_
  refine lv_iload_n hx hb d_La_remove_1 rfl (lv_at hl 1 rfl) ?_
  have hPc := hP.sub (ws' := wV M Y G0 S) [0, 1, 2, 3, 4, 5, 6, 7, 8, 9, 10, 11, 12, 13, 14, 15, 16, 17, 18, 19, 20, 21, 22, 23, 24, 25, 26, 27, 28, 29, 30, 31, 32, 33, 34, 35, 36, 37, 38, 39, 40, 41, 42, 43, 44] rfl
  have hDc := hD.sub (ws' := wV M Y G0 S) [0, 1, 2, 3, 4, 5, 6, 7, 8, 9, 10, 11, 12, 13, 14, 15, 16, 17, 18, 19, 20, 21, 22, 23, 24, 25, 26, 27, 28, 29, 30, 31, 32, 33, 34, 35, 36, 37, 38, 39, 40, 41, 42, 43, 44] (by decide) rfl
  have hKc := hK.sub (tys' := tV M) [0, 1, 2] rfl
  have hFc := va_free (wc := wV M Y G0 S) hD hS hA [0, 1, 2, 3, 4, 5, 6, 7, 8, 9, 10, 11, 12, 13, 14, 15, 16, 17, 18, 19, 20, 21, 22, 23, 24, 25, 26, 27, 28, 29, 30, 31, 32, 33, 34, 35, 36, 37, 38, 39, 40, 41, 42, 43, 44] rfl
  obtain ⟨k0, hk0, -⟩ := classAt_of (hts _ (u_Lq_Vt _ k_Vt_126))
  obtain ⟨j0, hj0, -⟩ := classAt_of (hts _ (u_Lq_Vt _ k_Vt_115))
  have hmiss : ∀ k1, s.vm.findClass "java/lang/IndexOutOfBoundsException" = some k1 → ∀ z ∈ ([⟨0, 5, 8, 19⟩] : List ExceptionTableEntry), x_miss R_La ([.ref M.o_Vt, .int p0] : List Value).toArray s k1 2 z := by
    intro k1 z9 z hz
    simp only [List.mem_cons, List.not_mem_nil, or_false] at hz
    subst hz
    exact ⟨by decide, by decide, "java/lang/IllegalStateException", j0, hts _ (u_Lq_La _ k_La_24), hj0, Xm A s hE "java/lang/IndexOutOfBoundsException" "java/lang/IllegalStateException" (by decide) k1 j0 z9 hj0⟩
  refine x_catV (n := 1) (As := [.int p0]) (rest := []) (b := M.o_Vt) (st0 := [.int p0, .ref M.o_Vt]) ⟨hx, hb, hml, hown, hts⟩ (lt_Vt_remove_2 l hfl dC dI X _ h) (cwV 1 hts (gwV good_Lq (u_Lq_La _ k_La_67) (u_Lq_Vt _ k_Vt_198) (u_Lq_Vt _ k_Vt_199) (u_Lq_Vt _ k_Vt_0) (wcs (u_Lq_Vt _ k_Vt_200) u_Lq_Vq)) rfl rfl rfl (by decide +kernel) ⟨Nat.le_of_ble_eq_true rfl, Nat.le_of_ble_eq_true rfl⟩) (pv_ofE (X.same _) (fun U z1 z2 => X.mono _ _ U hFc (hEw _ _ hS U z1 z2)) hPc hKc hDc (va_recv hKc hPc (ci := 11) (q0 := 0) rfl rfl)) rfl hl.1 rfl (Nat.le_of_ble_eq_true rfl) d_La_remove_2 ⟨Nat.le_of_eq (Nat.zero_add _), Nat.le_of_eq (Nat.zero_add _)⟩ (E0 := "java/lang/IndexOutOfBoundsException") (fun E st t z => z.1) ⟨k0, hk0⟩ (x := ⟨0, 5, 11, 25⟩) (pre := [⟨0, 5, 8, 19⟩]) (nm := "java/lang/IndexOutOfBoundsException") (cn := k0) htab hmiss rfl (by decide) (hts _ (u_Lq_La _ k_La_29)) hk0 (fun k1 z9 => by rw [hk0] at z9; cases z9; exact x_refl _ _) (fun qx st t L z1 z2 z3 z4 z5 => ?_)
  have hS := x_catS hS z1 z3.2.1 hFc z5
  obtain ⟨Y1, hP1, -, hD1⟩ := z3.2.2
  obtain ⟨hP, hD⟩ := va_join (wr := []) (w1 := wV M Y1 G' S') hP hD [0, 1, 2, 3, 4, 5, 6, 7, 8, 9, 10, 11, 12, 13, 14, 15, 16, 17, 18, 19, 20, 21, 22, 23, 24, 25, 26, 27, 28, 29, 30, 31, 32, 33, 34, 35, 36, 37, 38, 39, 40, 41, 42, 43, 44] [] rfl rfl (by decide) (by decide) (fun q a b => by have z := z3.2.1.2 q (by rw [z1]; exact a) b; rw [z1] at z; exact z) hFc hP1 hD1
  have hP : va_P (dC, dI) classes (wV M Y1 G' S') t.heap := hP
  have hD : va_D A (wV M Y1 G' S') := hD
  generalize t.heap = H at hP hS ⊢
  show W _ _ _ _ _ _ _ _ _ _ _ _ _ _ _ (F0 m 11 ls [.ref qx])
  refine W.widen (k := G'.gc - G0.gc) (n := G'.gs - G0.gs) (Nat.le_of_eq (Nat.zero_add _)) (Nat.le_of_eq (Nat.zero_add _)) ?_
  refine lv_astore_n (lv' := [(2, .ref qx), (0, .ref M.o_Vt), (1, .int p0)]) hx hb d_La_remove_11 rfl hl (by decide) rfl (fun ls hl => ?_)
  refine lv_iconst (v := 2) hx hb d_La_remove_12 (by decide) ?_
  exact W.iret (v := 2) hx hb hr (fun t ht hW => ⟨⟨2, Y1, rfl, rfl, by rw [ht]; exact hP, va_K.moved hW.alike hK, hD⟩, hS.F ht⟩) hS.2.2 d_La_remove_13
set_option maxHeartbeats 4000000 in
set_option maxRecDepth 100000 in
theorem la_stamp_ok (l : Launch) (hfl : l.flags = pinnedFlags ++ [noTraceFlag]) (dC : Nat → ClassId) (dI : Nat → Nat → Nat) {K : Nat} {M : CA} {E : (Nat → Prop) → State → Prop} (X : ly_X l dC dI K M E) (sz : Nat) {Y : CT} {G0 G' : CG} {S S' : CS} {p0 : Int32} {p1 : Int32} {p2 : Int32} {p3 : Int32} (h : f_Vt_stamp K G0 S p0 p1 p2 p3 = some (.ok (), G', S')) : Met l y_La_stamp (.codeWith y_La_stamp b_La_stamp 6 (some .int) [(0, 9, 12, 19), (0, 9, 16, 25), (0, 9, 20, 13)] :: V_Lq) ({ frames := 9, cells := G'.gc - G0.gc, slots := G'.gs - G0.gs, locals := 250 }) (va_Pc [.ref M.o_Vt, .int p0, .int p1, .int p2, .int p3] (fun U => U.heap.size = sz ∧ at_ (dC, dI) (fun _ => True) (wV M Y G0 S) (tV M) U ∧ E (va_A (wV M Y G0 S) sz) U)) (va_Qi (fun (r_ : Int32) (u : CT) => r_ = 0) (fun (u : CT) t => at_ (dC, dI) (va_A (wV M Y G0 S) sz) (wV M u G' S') (tV M) t) (va_A (wV M Y G0 S) sz)) (G'.gc - G0.gc) (G'.gs - G0.gs) (va_A (wV M Y G0 S) sz) := by
  refine MetW.ofW (handlers := [(0, 9, 12, 19), (0, 9, 16, 25), (0, 9, 20, 13)]) (cc := b_La_stamp) (maxL := 6) (ret := (some .int)) (by decide) rfl ?_
  intro p e s m args below meth c s₁ B hml htab hv
  obtain ⟨rfl, hsz, ⟨hP, hK, hD0⟩, hE⟩ := hv
  have hx := B.exec
  have hb := B.bytes
  have hr := B.returns
  have hlocks := B.notSynchronized
  have hts0 := atoms_spec (ws := .codeWith y_La_stamp b_La_stamp 6 (some .int) [(0, 9, 12, 19), (0, 9, 16, 25), (0, 9, 20, 13)] :: V_Lq) B.pre
  have hts : ∀ w ∈ V_Lq, w.before ([.ref M.o_Vt, .int p0, .int p1, .int p2, .int p3] : List Value).toArray s = true := fun w h => hts0 w (List.mem_cons_of_mem _ h)
  have hown : s.vm.findClass R_La = some m.cls := findClass_of_methodNamed B.named
  subst hsz
  have hD := hD0.self (sz := s.heap.size)
  generalize hAe : va_A (wV M Y G0 S) s.heap.size = A at hD hE ⊢
  have hA : ∀ q : Nat, s.heap.size ≤ q → A q := fun q h => by rw [← hAe]; exact Or.inr h
  have hS : va_S A s.heap s.heap [] := va_S.rf
  have hP : va_P (dC, dI) classes (wV M Y G0 S) s.heap := hP
  have hK : va_K (dC, dI) classes (tV M) s := hK
  have hEw : ∀ (H : Heap) (locs : List Loc), va_S A s.heap H locs → ∀ U : State, U.heap = H → s.WarmedH U.vm → E A U := fun H locs hS U hU hW => X.kept A s U H locs hE hS hU hW
  have hl := lv_entry ([.ref M.o_Vt, .int p0, .int p1, .int p2, .int p3]) (n := 6) (Nat.le_of_ble_eq_true rfl)
  rw [lg_entry_eq]
  generalize (lg_sl ([.ref M.o_Vt, .int p0, .int p1, .int p2, .int p3]) ++ List.replicate (6 - (lg_sl ([.ref M.o_Vt, .int p0, .int p1, .int p2, .int p3])).length) Slot.unset).toArray = ls at hl ⊢
  have hl : lv_has ls 6 [(0, .ref M.o_Vt), (1, .int p0), (2, .int p1), (3, .int p2), (4, .int p3)] := hl
  refine lv_aload_n hx hb d_La_stamp_0 rfl (lv_at hl 0 rfl) ?_
  refine lv_iload_n hx hb d_La_stamp_1 rfl (lv_at hl 1 rfl) ?_
  refine lv_iload_n hx hb d_La_stamp_2 rfl (lv_at hl 2 rfl) ?_
  refine lv_iload_n hx hb d_La_stamp_3 rfl (lv_at hl 3 rfl) ?_
  refine lv_iload hx hb d_La_stamp_4 (lv_at hl 4 rfl) ?_
  have hPc := hP.sub (ws' := wV M Y G0 S) [0, 1, 2, 3, 4, 5, 6, 7, 8, 9, 10, 11, 12, 13, 14, 15, 16, 17, 18, 19, 20, 21, 22, 23, 24, 25, 26, 27, 28, 29, 30, 31, 32, 33, 34, 35, 36, 37, 38, 39, 40, 41, 42, 43, 44] rfl
  have hDc := hD.sub (ws' := wV M Y G0 S) [0, 1, 2, 3, 4, 5, 6, 7, 8, 9, 10, 11, 12, 13, 14, 15, 16, 17, 18, 19, 20, 21, 22, 23, 24, 25, 26, 27, 28, 29, 30, 31, 32, 33, 34, 35, 36, 37, 38, 39, 40, 41, 42, 43, 44] (by decide) rfl
  have hKc := hK.sub (tys' := tV M) [0, 1, 2] rfl
  have hFc := va_free (wc := wV M Y G0 S) hD hS hA [0, 1, 2, 3, 4, 5, 6, 7, 8, 9, 10, 11, 12, 13, 14, 15, 16, 17, 18, 19, 20, 21, 22, 23, 24, 25, 26, 27, 28, 29, 30, 31, 32, 33, 34, 35, 36, 37, 38, 39, 40, 41, 42, 43, 44] rfl
  refine va_callv (va_runV (As := [.int p0, .int p1, .int p2, .int p3]) (rest := []) ⟨hx, hb, hml, hown, hts⟩ (l_Vt_stamp l dC dI X _ h) (cwV 4 hts (gwV good_Lq (u_Lq_La _ k_La_71) (u_Lq_Vt _ k_Vt_202) (u_Lq_Vt _ k_Vt_203) (u_Lq_Vt _ k_Vt_0) (wcs (u_Lq_Vt _ k_Vt_204) u_Lq_Vq)) rfl rfl rfl (by decide +kernel) ⟨Nat.le_of_ble_eq_true rfl, Nat.le_of_ble_eq_true rfl⟩) (pv_ofE (X.same _) (fun U z1 z2 => X.mono _ _ U hFc (hEw _ _ hS U z1 z2)) hPc hKc hDc (va_recv hKc hPc (ci := 11) (q0 := 0) rfl rfl)) rfl rfl hl.1 rfl (lv_room (Nat.le_of_ble_eq_true rfl)) d_La_stamp_6 ⟨Nat.le_of_eq (Nat.zero_add _), Nat.le_of_eq (Nat.zero_add _)⟩) hS (fun q _ h => hFc q h) hFc (fun Y1 t H locs ht hvm hw hB hz1 hk1 hS => ?_)
  obtain ⟨hP1, -, hD1⟩ := hB
  rw [ht] at hP1
  obtain ⟨hP, hD⟩ := va_join (wr := []) (w1 := wV M Y1 G' S') hP hD [0, 1, 2, 3, 4, 5, 6, 7, 8, 9, 10, 11, 12, 13, 14, 15, 16, 17, 18, 19, 20, 21, 22, 23, 24, 25, 26, 27, 28, 29, 30, 31, 32, 33, 34, 35, 36, 37, 38, 39, 40, 41, 42, 43, 44] [] rfl rfl (by decide) (by decide) hk1 hFc hP1 hD1
  refine W.widen (k := G'.gc - G0.gc) (n := G'.gs - G0.gs) (Nat.le_of_eq (Nat.zero_add _)) (Nat.le_of_eq (Nat.zero_add _)) ?_
  have hP : va_P (dC, dI) classes (wV M Y1 G' S') H := hP
  have hD : va_D A (wV M Y1 G' S') := hD
  refine lv_goto (tgt := 24) hx hb d_La_stamp_9 (by decide) ?_
  refine lv_iconst (v := 0) hx hb d_La_stamp_24 (by decide) ?_
  exact W.iret (v := 0) hx hb hr (fun t ht hW => ⟨⟨0, Y1, rfl, rfl, by rw [ht]; exact hP, va_K.moved hW.alike hK, hD⟩, hS.F ht⟩) hS.2.2 d_La_stamp_25
set_option maxHeartbeats 4000000 in
set_option maxRecDepth 100000 in
theorem la_stamp_0 (l : Launch) (hfl : l.flags = pinnedFlags ++ [noTraceFlag]) (dC : Nat → ClassId) (dI : Nat → Nat → Nat) {K : Nat} {M : CA} {E : (Nat → Prop) → State → Prop} (X : ly_X l dC dI K M E) (Xm : lz_miss E) (sz : Nat) {Y : CT} {G0 G' : CG} {S S' : CS} {p0 : Int32} {p1 : Int32} {p2 : Int32} {p3 : Int32} (h : f_Vt_stamp K G0 S p0 p1 p2 p3 = some (.error 0, G', S')) : Met l y_La_stamp (.codeWith y_La_stamp b_La_stamp 6 (some .int) [(0, 9, 12, 19), (0, 9, 16, 25), (0, 9, 20, 13)] :: V_Lq) ({ frames := 9, cells := G'.gc - G0.gc, slots := G'.gs - G0.gs, locals := 250 }) (va_Pc [.ref M.o_Vt, .int p0, .int p1, .int p2, .int p3] (fun U => U.heap.size = sz ∧ at_ (dC, dI) (fun _ => True) (wV M Y G0 S) (tV M) U ∧ E (va_A (wV M Y G0 S) sz) U)) (va_Qi (fun (r_ : Int32) (u : CT) => r_ = 3) (fun (u : CT) t => at_ (dC, dI) (va_A (wV M Y G0 S) sz) (wV M u G' S') (tV M) t) (va_A (wV M Y G0 S) sz)) (G'.gc - G0.gc) (G'.gs - G0.gs) (va_A (wV M Y G0 S) sz) := by
  refine MetW.ofW (handlers := [(0, 9, 12, 19), (0, 9, 16, 25), (0, 9, 20, 13)]) (cc := b_La_stamp) (maxL := 6) (ret := (some .int)) (by decide) rfl ?_
  intro p e s m args below meth c s₁ B hml htab hv
  obtain ⟨rfl, hsz, ⟨hP, hK, hD0⟩, hE⟩ := hv
  have hx := B.exec
  have hb := B.bytes
  have hr := B.returns
  have hlocks := B.notSynchronized
  have hts0 := atoms_spec (ws := .codeWith y_La_stamp b_La_stamp 6 (some .int) [(0, 9, 12, 19), (0, 9, 16, 25), (0, 9, 20, 13)] :: V_Lq) B.pre
  have hts : ∀ w ∈ V_Lq, w.before ([.ref M.o_Vt, .int p0, .int p1, .int p2, .int p3] : List Value).toArray s = true := fun w h => hts0 w (List.mem_cons_of_mem _ h)
  have hown : s.vm.findClass R_La = some m.cls := findClass_of_methodNamed B.named
  subst hsz
  have hD := hD0.self (sz := s.heap.size)
  generalize hAe : va_A (wV M Y G0 S) s.heap.size = A at hD hE ⊢
  have hA : ∀ q : Nat, s.heap.size ≤ q → A q := fun q h => by rw [← hAe]; exact Or.inr h
  have hS : va_S A s.heap s.heap [] := va_S.rf
  have hP : va_P (dC, dI) classes (wV M Y G0 S) s.heap := hP
  have hK : va_K (dC, dI) classes (tV M) s := hK
  have hEw : ∀ (H : Heap) (locs : List Loc), va_S A s.heap H locs → ∀ U : State, U.heap = H → s.WarmedH U.vm → E A U := fun H locs hS U hU hW => X.kept A s U H locs hE hS hU hW
  have hl := lv_entry ([.ref M.o_Vt, .int p0, .int p1, .int p2, .int p3]) (n := 6) (Nat.le_of_ble_eq_true rfl)
  rw [lg_entry_eq]
  generalize (lg_sl ([.ref M.o_Vt, .int p0, .int p1, .int p2, .int p3]) ++ List.replicate (6 - (lg_sl ([.ref M.o_Vt, .int p0, .int p1, .int p2, .int p3])).length) Slot.unset).toArray = ls at hl ⊢
  have hl : lv_has ls 6 [(0, .ref M.o_Vt), (1, .int p0), (2, .int p1), (3, .int p2), (4, .int p3)] := hl
  refine lv_aload_n hx hb d_La_stamp_0 rfl (lv_at hl 0 rfl) ?_
  refine lv_iload_n hx hb d_La_stamp_1 rfl (lv_at hl 1 rfl) ?_
  refine lv_iload_n hx hb d_La_stamp_2 rfl (lv_at hl 2 rfl) ?_
  refine lv_iload_n hx hb d_La_stamp_3 rfl (lv_at hl 3 rfl) ?_
  refine lv_iload hx hb d_La_stamp_4 (lv_at hl 4 rfl) ?_
  have hPc := hP.sub (ws' := wV M Y G0 S) [0, 1, 2, 3, 4, 5, 6, 7, 8, 9, 10, 11, 12, 13, 14, 15, 16, 17, 18, 19, 20, 21, 22, 23, 24, 25, 26, 27, 28, 29, 30, 31, 32, 33, 34, 35, 36, 37, 38, 39, 40, 41, 42, 43, 44] rfl
  have hDc := hD.sub (ws' := wV M Y G0 S) [0, 1, 2, 3, 4, 5, 6, 7, 8, 9, 10, 11, 12, 13, 14, 15, 16, 17, 18, 19, 20, 21, 22, 23, 24, 25, 26, 27, 28, 29, 30, 31, 32, 33, 34, 35, 36, 37, 38, 39, 40, 41, 42, 43, 44] (by decide) rfl
  have hKc := hK.sub (tys' := tV M) [0, 1, 2] rfl
  have hFc := va_free (wc := wV M Y G0 S) hD hS hA [0, 1, 2, 3, 4, 5, 6, 7, 8, 9, 10, 11, 12, 13, 14, 15, 16, 17, 18, 19, 20, 21, 22, 23, 24, 25, 26, 27, 28, 29, 30, 31, 32, 33, 34, 35, 36, 37, 38, 39, 40, 41, 42, 43, 44] rfl
  obtain ⟨k0, hk0, -⟩ := classAt_of (hts _ (u_Lq_Vt _ k_Vt_101))
  obtain ⟨j0, hj0, -⟩ := classAt_of (hts _ (u_Lq_Vt _ k_Vt_115))
  obtain ⟨j1, hj1, -⟩ := classAt_of (hts _ (u_Lq_Vt _ k_Vt_126))
  have hmiss : ∀ k1, s.vm.findClass "java/lang/IllegalArgumentException" = some k1 → ∀ z ∈ ([⟨0, 9, 12, 19⟩, ⟨0, 9, 16, 25⟩] : List ExceptionTableEntry), x_miss R_La ([.ref M.o_Vt, .int p0, .int p1, .int p2, .int p3] : List Value).toArray s k1 6 z := by
    intro k1 z9 z hz
    simp only [List.mem_cons, List.not_mem_nil, or_false] at hz
    rcases hz with rfl | rfl
    · exact ⟨by decide, by decide, "java/lang/IllegalStateException", j0, hts _ (u_Lq_La _ k_La_24), hj0, Xm A s hE "java/lang/IllegalArgumentException" "java/lang/IllegalStateException" (by decide) k1 j0 z9 hj0⟩
    · exact ⟨by decide, by decide, "java/lang/IndexOutOfBoundsException", j1, hts _ (u_Lq_La _ k_La_29), hj1, Xm A s hE "java/lang/IllegalArgumentException" "java/lang/IndexOutOfBoundsException" (by decide) k1 j1 z9 hj1⟩
  refine x_catV (n := 4) (As := [.int p0, .int p1, .int p2, .int p3]) (rest := []) (b := M.o_Vt) (st0 := [.int p3, .int p2, .int p1, .int p0, .ref M.o_Vt]) ⟨hx, hb, hml, hown, hts⟩ (lt_Vt_stamp_0 l hfl dC dI X _ h) (cwV 4 hts (gwV good_Lq (u_Lq_La _ k_La_71) (u_Lq_Vt _ k_Vt_202) (u_Lq_Vt _ k_Vt_203) (u_Lq_Vt _ k_Vt_0) (wcs (u_Lq_Vt _ k_Vt_204) u_Lq_Vq)) rfl rfl rfl (by decide +kernel) ⟨Nat.le_of_ble_eq_true rfl, Nat.le_of_ble_eq_true rfl⟩) (pv_ofE (X.same _) (fun U z1 z2 => X.mono _ _ U hFc (hEw _ _ hS U z1 z2)) hPc hKc hDc (va_recv hKc hPc (ci := 11) (q0 := 0) rfl rfl)) rfl hl.1 rfl (Nat.le_of_ble_eq_true rfl) d_La_stamp_6 ⟨Nat.le_of_eq (Nat.zero_add _), Nat.le_of_eq (Nat.zero_add _)⟩ (E0 := "java/lang/IllegalArgumentException") (fun E st t z => z.1) ⟨k0, hk0⟩ (x := ⟨0, 9, 20, 13⟩) (pre := [⟨0, 9, 12, 19⟩, ⟨0, 9, 16, 25⟩]) (nm := "java/lang/IllegalArgumentException") (cn := k0) htab hmiss rfl (by decide) (hts _ (u_Lq_La _ k_La_19)) hk0 (fun k1 z9 => by rw [hk0] at z9; cases z9; exact x_refl _ _) (fun qx st t L z1 z2 z3 z4 z5 => ?_)
  have hS := x_catS hS z1 z3.2.1 hFc z5
  obtain ⟨Y1, hP1, -, hD1⟩ := z3.2.2
  obtain ⟨hP, hD⟩ := va_join (wr := []) (w1 := wV M Y1 G' S') hP hD [0, 1, 2, 3, 4, 5, 6, 7, 8, 9, 10, 11, 12, 13, 14, 15, 16, 17, 18, 19, 20, 21, 22, 23, 24, 25, 26, 27, 28, 29, 30, 31, 32, 33, 34, 35, 36, 37, 38, 39, 40, 41, 42, 43, 44] [] rfl rfl (by decide) (by decide) (fun q a b => by have z := z3.2.1.2 q (by rw [z1]; exact a) b; rw [z1] at z; exact z) hFc hP1 hD1
  have hP : va_P (dC, dI) classes (wV M Y1 G' S') t.heap := hP
  have hD : va_D A (wV M Y1 G' S') := hD
  generalize t.heap = H at hP hS ⊢
  show W _ _ _ _ _ _ _ _ _ _ _ _ _ _ _ (F0 m 20 ls [.ref qx])
  refine W.widen (k := G'.gc - G0.gc) (n := G'.gs - G0.gs) (Nat.le_of_eq (Nat.zero_add _)) (Nat.le_of_eq (Nat.zero_add _)) ?_
  refine lv_astore (lv' := [(5, .ref qx), (0, .ref M.o_Vt), (1, .int p0), (2, .int p1), (3, .int p2), (4, .int p3)]) hx hb d_La_stamp_20 hl (by decide) rfl (fun ls hl => ?_)
  refine lv_iconst (v := 3) hx hb d_La_stamp_22 (by decide) ?_
  exact W.iret (v := 3) hx hb hr (fun t ht hW => ⟨⟨3, Y1, rfl, rfl, by rw [ht]; exact hP, va_K.moved hW.alike hK, hD⟩, hS.F ht⟩) hS.2.2 d_La_stamp_23
set_option maxHeartbeats 4000000 in
set_option maxRecDepth 100000 in
theorem la_stamp_1 (l : Launch) (hfl : l.flags = pinnedFlags ++ [noTraceFlag]) (dC : Nat → ClassId) (dI : Nat → Nat → Nat) {K : Nat} {M : CA} {E : (Nat → Prop) → State → Prop} (X : ly_X l dC dI K M E) (sz : Nat) {Y : CT} {G0 G' : CG} {S S' : CS} {p0 : Int32} {p1 : Int32} {p2 : Int32} {p3 : Int32} (h : f_Vt_stamp K G0 S p0 p1 p2 p3 = some (.error 1, G', S')) : Met l y_La_stamp (.codeWith y_La_stamp b_La_stamp 6 (some .int) [(0, 9, 12, 19), (0, 9, 16, 25), (0, 9, 20, 13)] :: V_Lq) ({ frames := 9, cells := G'.gc - G0.gc, slots := G'.gs - G0.gs, locals := 250 }) (va_Pc [.ref M.o_Vt, .int p0, .int p1, .int p2, .int p3] (fun U => U.heap.size = sz ∧ at_ (dC, dI) (fun _ => True) (wV M Y G0 S) (tV M) U ∧ E (va_A (wV M Y G0 S) sz) U)) (va_Qi (fun (r_ : Int32) (u : CT) => r_ = 1) (fun (u : CT) t => at_ (dC, dI) (va_A (wV M Y G0 S) sz) (wV M u G' S') (tV M) t) (va_A (wV M Y G0 S) sz)) (G'.gc - G0.gc) (G'.gs - G0.gs) (va_A (wV M Y G0 S) sz) := by
  refine MetW.ofW (handlers := [(0, 9, 12, 19), (0, 9, 16, 25), (0, 9, 20, 13)]) (cc := b_La_stamp) (maxL := 6) (ret := (some .int)) (by decide) rfl ?_
  intro p e s m args below meth c s₁ B hml htab hv
  obtain ⟨rfl, hsz, ⟨hP, hK, hD0⟩, hE⟩ := hv
  have hx := B.exec
  have hb := B.bytes
  have hr := B.returns
  have hlocks := B.notSynchronized
  have hts0 := atoms_spec (ws := .codeWith y_La_stamp b_La_stamp 6 (some .int) [(0, 9, 12, 19), (0, 9, 16, 25), (0, 9, 20, 13)] :: V_Lq) B.pre
  have hts : ∀ w ∈ V_Lq, w.before ([.ref M.o_Vt, .int p0, .int p1, .int p2, .int p3] : List Value).toArray s = true := fun w h => hts0 w (List.mem_cons_of_mem _ h)
  have hown : s.vm.findClass R_La = some m.cls := findClass_of_methodNamed B.named
  subst hsz
  have hD := hD0.self (sz := s.heap.size)
  generalize hAe : va_A (wV M Y G0 S) s.heap.size = A at hD hE ⊢
  have hA : ∀ q : Nat, s.heap.size ≤ q → A q := fun q h => by rw [← hAe]; exact Or.inr h
  have hS : va_S A s.heap s.heap [] := va_S.rf
  have hP : va_P (dC, dI) classes (wV M Y G0 S) s.heap := hP
  have hK : va_K (dC, dI) classes (tV M) s := hK
  have hEw : ∀ (H : Heap) (locs : List Loc), va_S A s.heap H locs → ∀ U : State, U.heap = H → s.WarmedH U.vm → E A U := fun H locs hS U hU hW => X.kept A s U H locs hE hS hU hW
  have hl := lv_entry ([.ref M.o_Vt, .int p0, .int p1, .int p2, .int p3]) (n := 6) (Nat.le_of_ble_eq_true rfl)
  rw [lg_entry_eq]
  generalize (lg_sl ([.ref M.o_Vt, .int p0, .int p1, .int p2, .int p3]) ++ List.replicate (6 - (lg_sl ([.ref M.o_Vt, .int p0, .int p1, .int p2, .int p3])).length) Slot.unset).toArray = ls at hl ⊢
  have hl : lv_has ls 6 [(0, .ref M.o_Vt), (1, .int p0), (2, .int p1), (3, .int p2), (4, .int p3)] := hl
  refine lv_aload_n hx hb d_La_stamp_0 rfl (lv_at hl 0 rfl) ?_
  refine lv_iload_n hx hb d_La_stamp_1 rfl (lv_at hl 1 rfl) ?_
  refine lv_iload_n hx hb d_La_stamp_2 rfl (lv_at hl 2 rfl) ?_
  refine lv_iload_n hx hb d_La_stamp_3 rfl (lv_at hl 3 rfl) ?_
  refine lv_iload hx hb d_La_stamp_4 (lv_at hl 4 rfl) ?_
  have hPc := hP.sub (ws' := wV M Y G0 S) [0, 1, 2, 3, 4, 5, 6, 7, 8, 9, 10, 11, 12, 13, 14, 15, 16, 17, 18, 19, 20, 21, 22, 23, 24, 25, 26, 27, 28, 29, 30, 31, 32, 33, 34, 35, 36, 37, 38, 39, 40, 41, 42, 43, 44] rfl
  have hDc := hD.sub (ws' := wV M Y G0 S) [0, 1, 2, 3, 4, 5, 6, 7, 8, 9, 10, 11, 12, 13, 14, 15, 16, 17, 18, 19, 20, 21, 22, 23, 24, 25, 26, 27, 28, 29, 30, 31, 32, 33, 34, 35, 36, 37, 38, 39, 40, 41, 42, 43, 44] (by decide) rfl
  have hKc := hK.sub (tys' := tV M) [0, 1, 2] rfl
  have hFc := va_free (wc := wV M Y G0 S) hD hS hA [0, 1, 2, 3, 4, 5, 6, 7, 8, 9, 10, 11, 12, 13, 14, 15, 16, 17, 18, 19, 20, 21, 22, 23, 24, 25, 26, 27, 28, 29, 30, 31, 32, 33, 34, 35, 36, 37, 38, 39, 40, 41, 42, 43, 44] rfl
  obtain ⟨k0, hk0, -⟩ := classAt_of (hts _ (u_Lq_Vt _ k_Vt_115))
  refine x_catV (n := 4) (As := [.int p0, .int p1, .int p2, .int p3]) (rest := []) (b := M.o_Vt) (st0 := [.int p3, .int p2, .int p1, .int p0, .ref M.o_Vt]) ⟨hx, hb, hml, hown, hts⟩ (lt_Vt_stamp_1 l hfl dC dI X _ h) (cwV 4 hts (gwV good_Lq (u_Lq_La _ k_La_71) (u_Lq_Vt _ k_Vt_202) (u_Lq_Vt _ k_Vt_203) (u_Lq_Vt _ k_Vt_0) (wcs (u_Lq_Vt _ k_Vt_204) u_Lq_Vq)) rfl rfl rfl (by decide +kernel) ⟨Nat.le_of_ble_eq_true rfl, Nat.le_of_ble_eq_true rfl⟩) (pv_ofE (X.same _) (fun U z1 z2 => X.mono _ _ U hFc (hEw _ _ hS U z1 z2)) hPc hKc hDc (va_recv hKc hPc (ci := 11) (q0 := 0) rfl rfl)) rfl hl.1 rfl (Nat.le_of_ble_eq_true rfl) d_La_stamp_6 ⟨Nat.le_of_eq (Nat.zero_add _), Nat.le_of_eq (Nat.zero_add _)⟩ (E0 := "java/lang/IllegalStateException") (fun E st t z => z.1) ⟨k0, hk0⟩ (x := ⟨0, 9, 12, 19⟩) (pre := []) (nm := "java/lang/IllegalStateException") (cn := k0) htab (fun k1 z9 z hz => absurd hz List.not_mem_nil) rfl (by decide) (hts _ (u_Lq_La _ k_La_24)) hk0 (fun k1 z9 => by rw [hk0] at z9; cases z9; exact x_refl _ _) (fun qx st t L z1 z2 z3 z4 z5 => ?_)
  have hS := x_catS hS z1 z3.2.1 hFc z5
  obtain ⟨Y1, hP1, -, hD1⟩ := z3.2.2
  obtain ⟨hP, hD⟩ := va_join (wr := []) (w1 := wV M Y1 G' S') hP hD [0, 1, 2, 3, 4, 5, 6, 7, 8, 9, 10, 11, 12, 13, 14, 15, 16, 17, 18, 19, 20, 21, 22, 23, 24, 25, 26, 27, 28, 29, 30, 31, 32, 33, 34, 35, 36, 37, 38, 39, 40, 41, 42, 43, 44] [] rfl rfl (by decide) (by decide) (fun q a b => by have z := z3.2.1.2 q (by rw [z1]; exact a) b; rw [z1] at z; exact z) hFc hP1 hD1
  have hP : va_P (dC, dI) classes (wV M Y1 G' S') t.heap := hP
  have hD : va_D A (wV M Y1 G' S') := hD
  generalize t.heap = H at hP hS ⊢
  show W _ _ _ _ _ _ _ _ _ _ _ _ _ _ _ (F0 m 12 ls [.ref qx])
  refine W.widen (k := G'.gc - G0.gc) (n := G'.gs - G0.gs) (Nat.le_of_eq (Nat.zero_add _)) (Nat.le_of_eq (Nat.zero_add _)) ?_
  refine lv_astore (lv' := [(5, .ref qx), (0, .ref M.o_Vt), (1, .int p0), (2, .int p1), (3, .int p2), (4, .int p3)]) hx hb d_La_stamp_12 hl (by decide) rfl (fun ls hl => ?_)
  refine lv_iconst (v := 1) hx hb d_La_stamp_14 (by decide) ?_
  exact W.iret (v := 1) hx hb hr (fun t ht hW => ⟨⟨1, Y1, rfl, rfl, by rw [ht]; exact hP, va_K.moved hW.alike hK, hD⟩, hS.F ht⟩) hS.2.2 d_La_stamp_15
set_option maxHeartbeats 4000000 in
set_option maxRecDepth 100000 in
theorem la_stamp_2 (l : Launch) (hfl : l.flags = pinnedFlags ++ [noTraceFlag]) (dC : Nat → ClassId) (dI : Nat → Nat → Nat) {K : Nat} {M : CA} {E : (Nat → Prop) → State → Prop} (X : ly_X l dC dI K M E) (Xm : lz_miss E) (sz : Nat) {Y : CT} {G0 G' : CG} {S S' : CS} {p0 : Int32} {p1 : Int32} {p2 : Int32} {p3 : Int32} (h : f_Vt_stamp K G0 S p0 p1 p2 p3 = some (.error 2, G', S')) : Met l y_La_stamp (.codeWith y_La_stamp b_La_stamp 6 (some .int) [(0, 9, 12, 19), (0, 9, 16, 25), (0, 9, 20, 13)] :: V_Lq) ({ frames := 9, cells := G'.gc - G0.gc, slots := G'.gs - G0.gs, locals := 250 }) (va_Pc [.ref M.o_Vt, .int p0, .int p1, .int p2, .int p3] (fun U => U.heap.size = sz ∧ at_ (dC, dI) (fun _ => True) (wV M Y G0 S) (tV M) U ∧ E (va_A (wV M Y G0 S) sz) U)) (va_Qi (fun (r_ : Int32) (u : CT) => r_ = 2) (fun (u : CT) t => at_ (dC, dI) (va_A (wV M Y G0 S) sz) (wV M u G' S') (tV M) t) (va_A (wV M Y G0 S) sz)) (G'.gc - G0.gc) (G'.gs - G0.gs) (va_A (wV M Y G0 S) sz) := by
  refine MetW.ofW (handlers := [(0, 9, 12, 19), (0, 9, 16, 25), (0, 9, 20, 13)]) (cc := b_La_stamp) (maxL := 6) (ret := (some .int)) (by decide) rfl ?_
  intro p e s m args below meth c s₁ B hml htab hv
  obtain ⟨rfl, hsz, ⟨hP, hK, hD0⟩, hE⟩ := hv
  have hx := B.exec
  have hb := B.bytes
  have hr := B.returns
  have hlocks := B.notSynchronized
  have hts0 := atoms_spec (ws := .codeWith y_La_stamp b_La_stamp 6 (some .int) [(0, 9, 12, 19), (0, 9, 16, 25), (0, 9, 20, 13)] :: V_Lq) B.pre
  have hts : ∀ w ∈ V_Lq, w.before ([.ref M.o_Vt, .int p0, .int p1, .int p2, .int p3] : List Value).toArray s = true := fun w h => hts0 w (List.mem_cons_of_mem _ h)
  have hown : s.vm.findClass R_La = some m.cls := findClass_of_methodNamed B.named
  subst hsz
  have hD := hD0.self (sz := s.heap.size)
  generalize hAe : va_A (wV M Y G0 S) s.heap.size = A at hD hE ⊢
  have hA : ∀ q : Nat, s.heap.size ≤ q → A q := fun q h => by rw [← hAe]; exact Or.inr h
  have hS : va_S A s.heap s.heap [] := va_S.rf
  have hP : va_P (dC, dI) classes (wV M Y G0 S) s.heap := hP
  have hK : va_K (dC, dI) classes (tV M) s := hK
  have hEw : ∀ (H : Heap) (locs : List Loc), va_S A s.heap H locs → ∀ U : State, U.heap = H → s.WarmedH U.vm → E A U := fun H locs hS U hU hW => X.kept A s U H locs hE hS hU hW
  have hl := lv_entry ([.ref M.o_Vt, .int p0, .int p1, .int p2, .int p3]) (n := 6) (Nat.le_of_ble_eq_true rfl)
  rw [lg_entry_eq]
  generalize (lg_sl ([.ref M.o_Vt, .int p0, .int p1, .int p2, .int p3]) ++ List.replicate (6 - (lg_sl ([.ref M.o_Vt, .int p0, .int p1, .int p2, .int p3])).length) Slot.unset).toArray = ls at hl ⊢
  have hl : lv_has ls 6 [(0, .ref M.o_Vt), (1, .int p0), (2, .int p1), (3, .int p2), (4, .int p3)] := hl
  refine lv_aload_n hx hb d_La_stamp_0 rfl (lv_at hl 0 rfl) ?_
  refine lv_iload_n hx hb d_La_stamp_1 rfl (lv_at hl 1 rfl) ?_
  refine lv_iload_n hx hb d_La_stamp_2 rfl (lv_at hl 2 rfl) ?_
  refine lv_iload_n hx hb d_La_stamp_3 rfl (lv_at hl 3 rfl) ?_
  refine lv_iload hx hb d_La_stamp_4 (lv_at hl 4 rfl) ?_
  have hPc := hP.sub (ws' := wV M Y G0 S) [0, 1, 2, 3, 4, 5, 6, 7, 8, 9, 10, 11, 12, 13, 14, 15, 16, 17, 18, 19, 20, 21, 22, 23, 24, 25, 26, 27, 28, 29, 30, 31, 32, 33, 34, 35, 36, 37, 38, 39, 40, 41, 42, 43, 44] rfl
  have hDc := hD.sub (ws' := wV M Y G0 S) [0, 1, 2, 3, 4, 5, 6, 7, 8, 9, 10, 11, 12, 13, 14, 15, 16, 17, 18, 19, 20, 21, 22, 23, 24, 25, 26, 27, 28, 29, 30, 31, 32, 33, 34, 35, 36, 37, 38, 39, 40, 41, 42, 43, 44] (by decide) rfl
  have hKc := hK.sub (tys' := tV M) [0, 1, 2] rfl
  have hFc := va_free (wc := wV M Y G0 S) hD hS hA [0, 1, 2, 3, 4, 5, 6, 7, 8, 9, 10, 11, 12, 13, 14, 15, 16, 17, 18, 19, 20, 21, 22, 23, 24, 25, 26, 27, 28, 29, 30, 31, 32, 33, 34, 35, 36, 37, 38, 39, 40, 41, 42, 43, 44] rfl
  obtain ⟨k0, hk0, -⟩ := classAt_of (hts _ (u_Lq_Vt _ k_Vt_126))
  obtain ⟨j0, hj0, -⟩ := classAt_of (hts _ (u_Lq_Vt _ k_Vt_115))
  have hmiss : ∀ k1, s.vm.findClass "java/lang/IndexOutOfBoundsException" = some k1 → ∀ z ∈ ([⟨0, 9, 12, 19⟩] : List ExceptionTableEntry), x_miss R_La ([.ref M.o_Vt, .int p0, .int p1, .int p2, .int p3] : List Value).toArray s k1 6 z := by
    intro k1 z9 z hz
    simp only [List.mem_cons, List.not_mem_nil, or_false] at hz
    subst hz
    exact ⟨by decide, by decide, "java/lang/IllegalStateException", j0, hts _ (u_Lq_La _ k_La_24), hj0, Xm A s hE "java/lang/IndexOutOfBoundsException" "java/lang/IllegalStateException" (by decide) k1 j0 z9 hj0⟩
  refine x_catV (n := 4) (As := [.int p0, .int p1, .int p2, .int p3]) (rest := []) (b := M.o_Vt) (st0 := [.int p3, .int p2, .int p1, .int p0, .ref M.o_Vt]) ⟨hx, hb, hml, hown, hts⟩ (lt_Vt_stamp_2 l hfl dC dI X _ h) (cwV 4 hts (gwV good_Lq (u_Lq_La _ k_La_71) (u_Lq_Vt _ k_Vt_202) (u_Lq_Vt _ k_Vt_203) (u_Lq_Vt _ k_Vt_0) (wcs (u_Lq_Vt _ k_Vt_204) u_Lq_Vq)) rfl rfl rfl (by decide +kernel) ⟨Nat.le_of_ble_eq_true rfl, Nat.le_of_ble_eq_true rfl⟩) (pv_ofE (X.same _) (fun U z1 z2 => X.mono _ _ U hFc (hEw _ _ hS U z1 z2)) hPc hKc hDc (va_recv hKc hPc (ci := 11) (q0 := 0) rfl rfl)) rfl hl.1 rfl (Nat.le_of_ble_eq_true rfl) d_La_stamp_6 ⟨Nat.le_of_eq (Nat.zero_add _), Nat.le_of_eq (Nat.zero_add _)⟩ (E0 := "java/lang/IndexOutOfBoundsException") (fun E st t z => z.1) ⟨k0, hk0⟩ (x := ⟨0, 9, 16, 25⟩) (pre := [⟨0, 9, 12, 19⟩]) (nm := "java/lang/IndexOutOfBoundsException") (cn := k0) htab hmiss rfl (by decide) (hts _ (u_Lq_La _ k_La_29)) hk0 (fun k1 z9 => by rw [hk0] at z9; cases z9; exact x_refl _ _) (fun qx st t L z1 z2 z3 z4 z5 => ?_)
  have hS := x_catS hS z1 z3.2.1 hFc z5
  obtain ⟨Y1, hP1, -, hD1⟩ := z3.2.2
  obtain ⟨hP, hD⟩ := va_join (wr := []) (w1 := wV M Y1 G' S') hP hD [0, 1, 2, 3, 4, 5, 6, 7, 8, 9, 10, 11, 12, 13, 14, 15, 16, 17, 18, 19, 20, 21, 22, 23, 24, 25, 26, 27, 28, 29, 30, 31, 32, 33, 34, 35, 36, 37, 38, 39, 40, 41, 42, 43, 44] [] rfl rfl (by decide) (by decide) (fun q a b => by have z := z3.2.1.2 q (by rw [z1]; exact a) b; rw [z1] at z; exact z) hFc hP1 hD1
  have hP : va_P (dC, dI) classes (wV M Y1 G' S') t.heap := hP
  have hD : va_D A (wV M Y1 G' S') := hD
  generalize t.heap = H at hP hS ⊢
  show W _ _ _ _ _ _ _ _ _ _ _ _ _ _ _ (F0 m 16 ls [.ref qx])
  refine W.widen (k := G'.gc - G0.gc) (n := G'.gs - G0.gs) (Nat.le_of_eq (Nat.zero_add _)) (Nat.le_of_eq (Nat.zero_add _)) ?_
  refine lv_astore (lv' := [(5, .ref qx), (0, .ref M.o_Vt), (1, .int p0), (2, .int p1), (3, .int p2), (4, .int p3)]) hx hb d_La_stamp_16 hl (by decide) rfl (fun ls hl => ?_)
  refine lv_iconst (v := 2) hx hb d_La_stamp_18 (by decide) ?_
  exact W.iret (v := 2) hx hb hr (fun t ht hW => ⟨⟨2, Y1, rfl, rfl, by rw [ht]; exact hP, va_K.moved hW.alike hK, hD⟩, hS.F ht⟩) hS.2.2 d_La_stamp_19
set_option maxHeartbeats 4000000 in
set_option maxRecDepth 100000 in
theorem la_run_ok (l : Launch) (hfl : l.flags = pinnedFlags ++ [noTraceFlag]) (dC : Nat → ClassId) (dI : Nat → Nat → Nat) {K : Nat} {M : CA} {E : (Nat → Prop) → State → Prop} (X : ly_X l dC dI K M E) (sz : Nat) {Y : CT} {G0 G' : CG} {S S' : CS} (ou : Nat) (kL : ClassId) (oo : Nat → Int64) {p0 : Int32} {p1 : Int32} {r : Int32} (h : f_Vt_run K G0 S p0 p1 = some (.ok r, G', S')) : Met l y_La_run (.codeWith y_La_run b_La_run 5 (some .int) [(0, 10, 13, 19), (0, 10, 17, 13)] :: V_Lq) ({ frames := 13, cells := G'.gc - G0.gc, slots := G'.gs - G0.gs, locals := 366 }) (va_Pc [.ref M.o_Vt, .int p0, .int p1, .ref ou] (fun U => U.heap.size = sz ∧ at_ (dC, dI) (fun _ => True) ((ou, .inl (kL, 1, .inr (.inl oo))) :: wV M Y G0 S) ((kL, .long) :: tV M) U ∧ E (va_A ((ou, .inl (kL, 1, .inr (.inl oo))) :: wV M Y G0 S) sz) U)) (va_Qi (fun (r_ : Int32) (u : CT) => r_ = 0) (fun (u : CT) t => at_ (dC, dI) (va_A ((ou, .inl (kL, 1, .inr (.inl oo))) :: wV M Y G0 S) sz) ((ou, .inl (kL, 1, .inr (.inl (vp_updL oo (0 : Int32).toNatClampNeg r.toInt64)))) :: wV M u G' S') ((kL, .long) :: tV M) t) (va_A ((ou, .inl (kL, 1, .inr (.inl oo))) :: wV M Y G0 S) sz)) (G'.gc - G0.gc) (G'.gs - G0.gs) (va_A ((ou, .inl (kL, 1, .inr (.inl oo))) :: wV M Y G0 S) sz) := by
  refine MetW.ofW (handlers := [(0, 10, 13, 19), (0, 10, 17, 13)]) (cc := b_La_run) (maxL := 5) (ret := (some .int)) (by decide) rfl ?_
  intro p e s m args below meth c s₁ B hml htab hv
  obtain ⟨rfl, hsz, ⟨hP, hK, hD0⟩, hE⟩ := hv
  have hx := B.exec
  have hb := B.bytes
  have hr := B.returns
  have hlocks := B.notSynchronized
  have hts0 := atoms_spec (ws := .codeWith y_La_run b_La_run 5 (some .int) [(0, 10, 13, 19), (0, 10, 17, 13)] :: V_Lq) B.pre
  have hts : ∀ w ∈ V_Lq, w.before ([.ref M.o_Vt, .int p0, .int p1, .ref ou] : List Value).toArray s = true := fun w h => hts0 w (List.mem_cons_of_mem _ h)
  have hown : s.vm.findClass R_La = some m.cls := findClass_of_methodNamed B.named
  subst hsz
  have hD := hD0.self (sz := s.heap.size)
  generalize hAe : va_A ((ou, .inl (kL, 1, .inr (.inl oo))) :: wV M Y G0 S) s.heap.size = A at hD hE ⊢
  have hA : ∀ q : Nat, s.heap.size ≤ q → A q := fun q h => by rw [← hAe]; exact Or.inr h
  have hS : va_S A s.heap s.heap [] := va_S.rf
  have hP : va_P (dC, dI) classes ((ou, .inl (kL, 1, .inr (.inl oo))) :: wV M Y G0 S) s.heap := hP
  have hK : va_K (dC, dI) classes ((kL, .long) :: tV M) s := hK
  have hEw : ∀ (H : Heap) (locs : List Loc), va_S A s.heap H locs → ∀ U : State, U.heap = H → s.WarmedH U.vm → E A U := fun H locs hS U hU hW => X.kept A s U H locs hE hS hU hW
  have hl := lv_entry ([.ref M.o_Vt, .int p0, .int p1, .ref ou]) (n := 5) (Nat.le_of_ble_eq_true rfl)
  rw [lg_entry_eq]
  generalize (lg_sl ([.ref M.o_Vt, .int p0, .int p1, .ref ou]) ++ List.replicate (5 - (lg_sl ([.ref M.o_Vt, .int p0, .int p1, .ref ou])).length) Slot.unset).toArray = ls at hl ⊢
  have hl : lv_has ls 5 [(0, .ref M.o_Vt), (1, .int p0), (2, .int p1), (3, .ref ou)] := hl
  refine lv_aload_n hx hb d_La_run_0 rfl (lv_at hl 3 rfl) ?_
  refine lv_iconst (v := 0) hx hb d_La_run_1 (by decide) ?_
  refine lv_aload_n hx hb d_La_run_2 rfl (lv_at hl 0 rfl) ?_
  refine lv_iload_n hx hb d_La_run_3 rfl (lv_at hl 1 rfl) ?_
  refine lv_iload_n hx hb d_La_run_4 rfl (lv_at hl 2 rfl) ?_
  have hPc := hP.sub (ws' := wV M Y G0 S) [1, 2, 3, 4, 5, 6, 7, 8, 9, 10, 11, 12, 13, 14, 15, 16, 17, 18, 19, 20, 21, 22, 23, 24, 25, 26, 27, 28, 29, 30, 31, 32, 33, 34, 35, 36, 37, 38, 39, 40, 41, 42, 43, 44, 45] rfl
  have hDc := hD.sub (ws' := wV M Y G0 S) [1, 2, 3, 4, 5, 6, 7, 8, 9, 10, 11, 12, 13, 14, 15, 16, 17, 18, 19, 20, 21, 22, 23, 24, 25, 26, 27, 28, 29, 30, 31, 32, 33, 34, 35, 36, 37, 38, 39, 40, 41, 42, 43, 44, 45] (by decide) rfl
  have hKc := hK.sub (tys' := tV M) [1, 2, 3] rfl
  have hFc := va_free (wc := wV M Y G0 S) hD hS hA [1, 2, 3, 4, 5, 6, 7, 8, 9, 10, 11, 12, 13, 14, 15, 16, 17, 18, 19, 20, 21, 22, 23, 24, 25, 26, 27, 28, 29, 30, 31, 32, 33, 34, 35, 36, 37, 38, 39, 40, 41, 42, 43, 44, 45] rfl
  refine va_calli (va_runV (As := [.int p0, .int p1]) (rest := [.int 0, .ref ou]) ⟨hx, hb, hml, hown, hts⟩ (l_Vt_run l dC dI X _ h) (cwV 2 hts (gwV good_Lq (u_Lq_La _ k_La_75) (u_Lq_Vt _ k_Vt_207) (u_Lq_Vt _ k_Vt_208) (u_Lq_Vt _ k_Vt_0) (wcs (u_Lq_Vt _ k_Vt_209) u_Lq_Vq)) rfl rfl rfl (by decide +kernel) ⟨Nat.le_of_ble_eq_true rfl, Nat.le_of_ble_eq_true rfl⟩) (pv_ofE (X.same _) (fun U z1 z2 => X.mono _ _ U hFc (hEw _ _ hS U z1 z2)) hPc hKc hDc (va_recv hKc hPc (ci := 11) (q0 := 0) rfl rfl)) rfl rfl hl.1 rfl (lv_room (Nat.le_of_ble_eq_true rfl)) d_La_run_5 ⟨Nat.le_of_eq (Nat.zero_add _), Nat.le_of_eq (Nat.zero_add _)⟩) hS (fun q _ h => hFc q h) hFc (fun r_ Y1 t H locs ht hvm hw hB hz1 hk1 hS => ?_)
  rw [hw]
  obtain ⟨hP1, -, hD1⟩ := hB
  rw [ht] at hP1
  obtain ⟨hP, hD⟩ := va_join (wr := [(ou, .inl (kL, 1, .inr (.inl oo)))]) (w1 := wV M Y1 G' S') hP hD [1, 2, 3, 4, 5, 6, 7, 8, 9, 10, 11, 12, 13, 14, 15, 16, 17, 18, 19, 20, 21, 22, 23, 24, 25, 26, 27, 28, 29, 30, 31, 32, 33, 34, 35, 36, 37, 38, 39, 40, 41, 42, 43, 44, 45] [0] rfl rfl (by decide) (by decide) hk1 hFc hP1 hD1
  refine W.widen (k := G'.gc - G0.gc) (n := G'.gs - G0.gs) (Nat.le_of_eq (Nat.zero_add _)) (Nat.le_of_eq (Nat.zero_add _)) ?_
  have hP : va_P (dC, dI) classes ((ou, .inl (kL, 1, .inr (.inl oo))) :: wV M Y1 G' S') H := hP
  have hD : va_D A ((ou, .inl (kL, 1, .inr (.inl oo))) :: wV M Y1 G' S') := hD
  refine lv_i2l hx hb d_La_run_8 rfl ?_
  refine va_last hx hb hK hP hD hS 0 0 rfl rfl (by unfold vp_in; decide) d_La_run_9 (fun H locs hP hD hS => ?_)
  refine lv_goto (tgt := 21) hx hb d_La_run_10 (by decide) ?_
  refine lv_iconst (v := 0) hx hb d_La_run_21 (by decide) ?_
  exact W.iret (v := 0) hx hb hr (fun t ht hW => ⟨⟨0, Y1, rfl, rfl, by rw [ht]; exact hP, va_K.moved hW.alike hK, hD⟩, hS.F ht⟩) hS.2.2 d_La_run_22
set_option maxHeartbeats 4000000 in
set_option maxRecDepth 100000 in
theorem la_run_0 (l : Launch) (hfl : l.flags = pinnedFlags ++ [noTraceFlag]) (dC : Nat → ClassId) (dI : Nat → Nat → Nat) {K : Nat} {M : CA} {E : (Nat → Prop) → State → Prop} (X : ly_X l dC dI K M E) (Xm : lz_miss E) (sz : Nat) {Y : CT} {G0 G' : CG} {S S' : CS} (ou : Nat) (kL : ClassId) (oo : Nat → Int64) {p0 : Int32} {p1 : Int32} (h : f_Vt_run K G0 S p0 p1 = some (.error 0, G', S')) : Met l y_La_run (.codeWith y_La_run b_La_run 5 (some .int) [(0, 10, 13, 19), (0, 10, 17, 13)] :: V_Lq) ({ frames := 13, cells := G'.gc - G0.gc, slots := G'.gs - G0.gs, locals := 366 }) (va_Pc [.ref M.o_Vt, .int p0, .int p1, .ref ou] (fun U => U.heap.size = sz ∧ at_ (dC, dI) (fun _ => True) ((ou, .inl (kL, 1, .inr (.inl oo))) :: wV M Y G0 S) ((kL, .long) :: tV M) U ∧ E (va_A ((ou, .inl (kL, 1, .inr (.inl oo))) :: wV M Y G0 S) sz) U)) (va_Qi (fun (r_ : Int32) (u : CT) => r_ = 2) (fun (u : CT) t => at_ (dC, dI) (va_A ((ou, .inl (kL, 1, .inr (.inl oo))) :: wV M Y G0 S) sz) ((ou, .inl (kL, 1, .inr (.inl oo))) :: wV M u G' S') ((kL, .long) :: tV M) t) (va_A ((ou, .inl (kL, 1, .inr (.inl oo))) :: wV M Y G0 S) sz)) (G'.gc - G0.gc) (G'.gs - G0.gs) (va_A ((ou, .inl (kL, 1, .inr (.inl oo))) :: wV M Y G0 S) sz) := by
  refine MetW.ofW (handlers := [(0, 10, 13, 19), (0, 10, 17, 13)]) (cc := b_La_run) (maxL := 5) (ret := (some .int)) (by decide) rfl ?_
  intro p e s m args below meth c s₁ B hml htab hv
  obtain ⟨rfl, hsz, ⟨hP, hK, hD0⟩, hE⟩ := hv
  have hx := B.exec
  have hb := B.bytes
  have hr := B.returns
  have hlocks := B.notSynchronized
  have hts0 := atoms_spec (ws := .codeWith y_La_run b_La_run 5 (some .int) [(0, 10, 13, 19), (0, 10, 17, 13)] :: V_Lq) B.pre
  have hts : ∀ w ∈ V_Lq, w.before ([.ref M.o_Vt, .int p0, .int p1, .ref ou] : List Value).toArray s = true := fun w h => hts0 w (List.mem_cons_of_mem _ h)
  have hown : s.vm.findClass R_La = some m.cls := findClass_of_methodNamed B.named
  subst hsz
  have hD := hD0.self (sz := s.heap.size)
  generalize hAe : va_A ((ou, .inl (kL, 1, .inr (.inl oo))) :: wV M Y G0 S) s.heap.size = A at hD hE ⊢
  have hA : ∀ q : Nat, s.heap.size ≤ q → A q := fun q h => by rw [← hAe]; exact Or.inr h
  have hS : va_S A s.heap s.heap [] := va_S.rf
  have hP : va_P (dC, dI) classes ((ou, .inl (kL, 1, .inr (.inl oo))) :: wV M Y G0 S) s.heap := hP
  have hK : va_K (dC, dI) classes ((kL, .long) :: tV M) s := hK
  have hEw : ∀ (H : Heap) (locs : List Loc), va_S A s.heap H locs → ∀ U : State, U.heap = H → s.WarmedH U.vm → E A U := fun H locs hS U hU hW => X.kept A s U H locs hE hS hU hW
  have hl := lv_entry ([.ref M.o_Vt, .int p0, .int p1, .ref ou]) (n := 5) (Nat.le_of_ble_eq_true rfl)
  rw [lg_entry_eq]
  generalize (lg_sl ([.ref M.o_Vt, .int p0, .int p1, .ref ou]) ++ List.replicate (5 - (lg_sl ([.ref M.o_Vt, .int p0, .int p1, .ref ou])).length) Slot.unset).toArray = ls at hl ⊢
  have hl : lv_has ls 5 [(0, .ref M.o_Vt), (1, .int p0), (2, .int p1), (3, .ref ou)] := hl
  refine lv_aload_n hx hb d_La_run_0 rfl (lv_at hl 3 rfl) ?_
  refine lv_iconst (v := 0) hx hb d_La_run_1 (by decide) ?_
  refine lv_aload_n hx hb d_La_run_2 rfl (lv_at hl 0 rfl) ?_
  refine lv_iload_n hx hb d_La_run_3 rfl (lv_at hl 1 rfl) ?_
  refine lv_iload_n hx hb d_La_run_4 rfl (lv_at hl 2 rfl) ?_
  have hPc := hP.sub (ws' := wV M Y G0 S) [1, 2, 3, 4, 5, 6, 7, 8, 9, 10, 11, 12, 13, 14, 15, 16, 17, 18, 19, 20, 21, 22, 23, 24, 25, 26, 27, 28, 29, 30, 31, 32, 33, 34, 35, 36, 37, 38, 39, 40, 41, 42, 43, 44, 45] rfl
  have hDc := hD.sub (ws' := wV M Y G0 S) [1, 2, 3, 4, 5, 6, 7, 8, 9, 10, 11, 12, 13, 14, 15, 16, 17, 18, 19, 20, 21, 22, 23, 24, 25, 26, 27, 28, 29, 30, 31, 32, 33, 34, 35, 36, 37, 38, 39, 40, 41, 42, 43, 44, 45] (by decide) rfl
  have hKc := hK.sub (tys' := tV M) [1, 2, 3] rfl
  have hFc := va_free (wc := wV M Y G0 S) hD hS hA [1, 2, 3, 4, 5, 6, 7, 8, 9, 10, 11, 12, 13, 14, 15, 16, 17, 18, 19, 20, 21, 22, 23, 24, 25, 26, 27, 28, 29, 30, 31, 32, 33, 34, 35, 36, 37, 38, 39, 40, 41, 42, 43, 44, 45] rfl
  obtain ⟨k0, hk0, -⟩ := classAt_of (hts _ (u_Lq_Vt _ k_Vt_101))
  obtain ⟨j0, hj0, -⟩ := classAt_of (hts _ (u_Lq_Vt _ k_Vt_115))
  have hmiss : ∀ k1, s.vm.findClass "java/lang/IllegalArgumentException" = some k1 → ∀ z ∈ ([⟨0, 10, 13, 19⟩] : List ExceptionTableEntry), x_miss R_La ([.ref M.o_Vt, .int p0, .int p1, .ref ou] : List Value).toArray s k1 5 z := by
    intro k1 z9 z hz
    simp only [List.mem_cons, List.not_mem_nil, or_false] at hz
    subst hz
    exact ⟨by decide, by decide, "java/lang/IllegalStateException", j0, hts _ (u_Lq_La _ k_La_24), hj0, Xm A s hE "java/lang/IllegalArgumentException" "java/lang/IllegalStateException" (by decide) k1 j0 z9 hj0⟩
  refine x_catV (n := 2) (As := [.int p0, .int p1]) (rest := [.int 0, .ref ou]) (b := M.o_Vt) (st0 := [.int p1, .int p0, .ref M.o_Vt, .int 0, .ref ou]) ⟨hx, hb, hml, hown, hts⟩ (lt_Vt_run_0 l hfl dC dI X _ h) (cwV 2 hts (gwV good_Lq (u_Lq_La _ k_La_75) (u_Lq_Vt _ k_Vt_207) (u_Lq_Vt _ k_Vt_208) (u_Lq_Vt _ k_Vt_0) (wcs (u_Lq_Vt _ k_Vt_209) u_Lq_Vq)) rfl rfl rfl (by decide +kernel) ⟨Nat.le_of_ble_eq_true rfl, Nat.le_of_ble_eq_true rfl⟩) (pv_ofE (X.same _) (fun U z1 z2 => X.mono _ _ U hFc (hEw _ _ hS U z1 z2)) hPc hKc hDc (va_recv hKc hPc (ci := 11) (q0 := 0) rfl rfl)) rfl hl.1 rfl (Nat.le_of_ble_eq_true rfl) d_La_run_5 ⟨Nat.le_of_eq (Nat.zero_add _), Nat.le_of_eq (Nat.zero_add _)⟩ (E0 := "java/lang/IllegalArgumentException") (fun E st t z => z.1) ⟨k0, hk0⟩ (x := ⟨0, 10, 17, 13⟩) (pre := [⟨0, 10, 13, 19⟩]) (nm := "java/lang/IllegalArgumentException") (cn := k0) htab hmiss rfl (by decide) (hts _ (u_Lq_La _ k_La_19)) hk0 (fun k1 z9 => by rw [hk0] at z9; cases z9; exact x_refl _ _) (fun qx st t L z1 z2 z3 z4 z5 => ?_)
  have hS := x_catS hS z1 z3.2.1 hFc z5
  obtain ⟨Y1, hP1, -, hD1⟩ := z3.2.2
  obtain ⟨hP, hD⟩ := va_join (wr := [(ou, .inl (kL, 1, .inr (.inl oo)))]) (w1 := wV M Y1 G' S') hP hD [1, 2, 3, 4, 5, 6, 7, 8, 9, 10, 11, 12, 13, 14, 15, 16, 17, 18, 19, 20, 21, 22, 23, 24, 25, 26, 27, 28, 29, 30, 31, 32, 33, 34, 35, 36, 37, 38, 39, 40, 41, 42, 43, 44, 45] [0] rfl rfl (by decide) (by decide) (fun q a b => by have z := z3.2.1.2 q (by rw [z1]; exact a) b; rw [z1] at z; exact z) hFc hP1 hD1
  have hP : va_P (dC, dI) classes ((ou, .inl (kL, 1, .inr (.inl oo))) :: wV M Y1 G' S') t.heap := hP
  have hD : va_D A ((ou, .inl (kL, 1, .inr (.inl oo))) :: wV M Y1 G' S') := hD
  generalize t.heap = H at hP hS ⊢
  show W _ _ _ _ _ _ _ _ _ _ _ _ _ _ _ (F0 m 17 ls [.ref qx])
  refine W.widen (k := G'.gc - G0.gc) (n := G'.gs - G0.gs) (Nat.le_of_eq (Nat.zero_add _)) (Nat.le_of_eq (Nat.zero_add _)) ?_
  refine lv_astore (lv' := [(4, .ref qx), (0, .ref M.o_Vt), (1, .int p0), (2, .int p1), (3, .ref ou)]) hx hb d_La_run_17 hl (by decide) rfl (fun ls hl => ?_)
  refine lv_iconst (v := 2) hx hb d_La_run_19 (by decide) ?_
  exact W.iret (v := 2) hx hb hr (fun t ht hW => ⟨⟨2, Y1, rfl, rfl, by rw [ht]; exact hP, va_K.moved hW.alike hK, hD⟩, hS.F ht⟩) hS.2.2 d_La_run_20
set_option maxHeartbeats 4000000 in
set_option maxRecDepth 100000 in
theorem la_run_1 (l : Launch) (hfl : l.flags = pinnedFlags ++ [noTraceFlag]) (dC : Nat → ClassId) (dI : Nat → Nat → Nat) {K : Nat} {M : CA} {E : (Nat → Prop) → State → Prop} (X : ly_X l dC dI K M E) (sz : Nat) {Y : CT} {G0 G' : CG} {S S' : CS} (ou : Nat) (kL : ClassId) (oo : Nat → Int64) {p0 : Int32} {p1 : Int32} (h : f_Vt_run K G0 S p0 p1 = some (.error 1, G', S')) : Met l y_La_run (.codeWith y_La_run b_La_run 5 (some .int) [(0, 10, 13, 19), (0, 10, 17, 13)] :: V_Lq) ({ frames := 13, cells := G'.gc - G0.gc, slots := G'.gs - G0.gs, locals := 366 }) (va_Pc [.ref M.o_Vt, .int p0, .int p1, .ref ou] (fun U => U.heap.size = sz ∧ at_ (dC, dI) (fun _ => True) ((ou, .inl (kL, 1, .inr (.inl oo))) :: wV M Y G0 S) ((kL, .long) :: tV M) U ∧ E (va_A ((ou, .inl (kL, 1, .inr (.inl oo))) :: wV M Y G0 S) sz) U)) (va_Qi (fun (r_ : Int32) (u : CT) => r_ = 1) (fun (u : CT) t => at_ (dC, dI) (va_A ((ou, .inl (kL, 1, .inr (.inl oo))) :: wV M Y G0 S) sz) ((ou, .inl (kL, 1, .inr (.inl oo))) :: wV M u G' S') ((kL, .long) :: tV M) t) (va_A ((ou, .inl (kL, 1, .inr (.inl oo))) :: wV M Y G0 S) sz)) (G'.gc - G0.gc) (G'.gs - G0.gs) (va_A ((ou, .inl (kL, 1, .inr (.inl oo))) :: wV M Y G0 S) sz) := by
  refine MetW.ofW (handlers := [(0, 10, 13, 19), (0, 10, 17, 13)]) (cc := b_La_run) (maxL := 5) (ret := (some .int)) (by decide) rfl ?_
  intro p e s m args below meth c s₁ B hml htab hv
  obtain ⟨rfl, hsz, ⟨hP, hK, hD0⟩, hE⟩ := hv
  have hx := B.exec
  have hb := B.bytes
  have hr := B.returns
  have hlocks := B.notSynchronized
  have hts0 := atoms_spec (ws := .codeWith y_La_run b_La_run 5 (some .int) [(0, 10, 13, 19), (0, 10, 17, 13)] :: V_Lq) B.pre
  have hts : ∀ w ∈ V_Lq, w.before ([.ref M.o_Vt, .int p0, .int p1, .ref ou] : List Value).toArray s = true := fun w h => hts0 w (List.mem_cons_of_mem _ h)
  have hown : s.vm.findClass R_La = some m.cls := findClass_of_methodNamed B.named
  subst hsz
  have hD := hD0.self (sz := s.heap.size)
  generalize hAe : va_A ((ou, .inl (kL, 1, .inr (.inl oo))) :: wV M Y G0 S) s.heap.size = A at hD hE ⊢
  have hA : ∀ q : Nat, s.heap.size ≤ q → A q := fun q h => by rw [← hAe]; exact Or.inr h
  have hS : va_S A s.heap s.heap [] := va_S.rf
  have hP : va_P (dC, dI) classes ((ou, .inl (kL, 1, .inr (.inl oo))) :: wV M Y G0 S) s.heap := hP
  have hK : va_K (dC, dI) classes ((kL, .long) :: tV M) s := hK
  have hEw : ∀ (H : Heap) (locs : List Loc), va_S A s.heap H locs → ∀ U : State, U.heap = H → s.WarmedH U.vm → E A U := fun H locs hS U hU hW => X.kept A s U H locs hE hS hU hW
  have hl := lv_entry ([.ref M.o_Vt, .int p0, .int p1, .ref ou]) (n := 5) (Nat.le_of_ble_eq_true rfl)
  rw [lg_entry_eq]
  generalize (lg_sl ([.ref M.o_Vt, .int p0, .int p1, .ref ou]) ++ List.replicate (5 - (lg_sl ([.ref M.o_Vt, .int p0, .int p1, .ref ou])).length) Slot.unset).toArray = ls at hl ⊢
  have hl : lv_has ls 5 [(0, .ref M.o_Vt), (1, .int p0), (2, .int p1), (3, .ref ou)] := hl
  refine lv_aload_n hx hb d_La_run_0 rfl (lv_at hl 3 rfl) ?_
  refine lv_iconst (v := 0) hx hb d_La_run_1 (by decide) ?_
  refine lv_aload_n hx hb d_La_run_2 rfl (lv_at hl 0 rfl) ?_
  refine lv_iload_n hx hb d_La_run_3 rfl (lv_at hl 1 rfl) ?_
  refine lv_iload_n hx hb d_La_run_4 rfl (lv_at hl 2 rfl) ?_
  have hPc := hP.sub (ws' := wV M Y G0 S) [1, 2, 3, 4, 5, 6, 7, 8, 9, 10, 11, 12, 13, 14, 15, 16, 17, 18, 19, 20, 21, 22, 23, 24, 25, 26, 27, 28, 29, 30, 31, 32, 33, 34, 35, 36, 37, 38, 39, 40, 41, 42, 43, 44, 45] rfl
  have hDc := hD.sub (ws' := wV M Y G0 S) [1, 2, 3, 4, 5, 6, 7, 8, 9, 10, 11, 12, 13, 14, 15, 16, 17, 18, 19, 20, 21, 22, 23, 24, 25, 26, 27, 28, 29, 30, 31, 32, 33, 34, 35, 36, 37, 38, 39, 40, 41, 42, 43, 44, 45] (by decide) rfl
  have hKc := hK.sub (tys' := tV M) [1, 2, 3] rfl
  have hFc := va_free (wc := wV M Y G0 S) hD hS hA [1, 2, 3, 4, 5, 6, 7, 8, 9, 10, 11, 12, 13, 14, 15, 16, 17, 18, 19, 20, 21, 22, 23, 24, 25, 26, 27, 28, 29, 30, 31, 32, 33, 34, 35, 36, 37, 38, 39, 40, 41, 42, 43, 44, 45] rfl
  obtain ⟨k0, hk0, -⟩ := classAt_of (hts _ (u_Lq_Vt _ k_Vt_115))
  refine x_catV (n := 2) (As := [.int p0, .int p1]) (rest := [.int 0, .ref ou]) (b := M.o_Vt) (st0 := [.int p1, .int p0, .ref M.o_Vt, .int 0, .ref ou]) ⟨hx, hb, hml, hown, hts⟩ (lt_Vt_run_1 l hfl dC dI X _ h) (cwV 2 hts (gwV good_Lq (u_Lq_La _ k_La_75) (u_Lq_Vt _ k_Vt_207) (u_Lq_Vt _ k_Vt_208) (u_Lq_Vt _ k_Vt_0) (wcs (u_Lq_Vt _ k_Vt_209) u_Lq_Vq)) rfl rfl rfl (by decide +kernel) ⟨Nat.le_of_ble_eq_true rfl, Nat.le_of_ble_eq_true rfl⟩) (pv_ofE (X.same _) (fun U z1 z2 => X.mono _ _ U hFc (hEw _ _ hS U z1 z2)) hPc hKc hDc (va_recv hKc hPc (ci := 11) (q0 := 0) rfl rfl)) rfl hl.1 rfl (Nat.le_of_ble_eq_true rfl) d_La_run_5 ⟨Nat.le_of_eq (Nat.zero_add _), Nat.le_of_eq (Nat.zero_add _)⟩ (E0 := "java/lang/IllegalStateException") (fun E st t z => z.1) ⟨k0, hk0⟩ (x := ⟨0, 10, 13, 19⟩) (pre := []) (nm := "java/lang/IllegalStateException") (cn := k0) htab (fun k1 z9 z hz => absurd hz List.not_mem_nil) rfl (by decide) (hts _ (u_Lq_La _ k_La_24)) hk0 (fun k1 z9 => by rw [hk0] at z9; cases z9; exact x_refl _ _) (fun qx st t L z1 z2 z3 z4 z5 => ?_)
  have hS := x_catS hS z1 z3.2.1 hFc z5
  obtain ⟨Y1, hP1, -, hD1⟩ := z3.2.2
  obtain ⟨hP, hD⟩ := va_join (wr := [(ou, .inl (kL, 1, .inr (.inl oo)))]) (w1 := wV M Y1 G' S') hP hD [1, 2, 3, 4, 5, 6, 7, 8, 9, 10, 11, 12, 13, 14, 15, 16, 17, 18, 19, 20, 21, 22, 23, 24, 25, 26, 27, 28, 29, 30, 31, 32, 33, 34, 35, 36, 37, 38, 39, 40, 41, 42, 43, 44, 45] [0] rfl rfl (by decide) (by decide) (fun q a b => by have z := z3.2.1.2 q (by rw [z1]; exact a) b; rw [z1] at z; exact z) hFc hP1 hD1
  have hP : va_P (dC, dI) classes ((ou, .inl (kL, 1, .inr (.inl oo))) :: wV M Y1 G' S') t.heap := hP
  have hD : va_D A ((ou, .inl (kL, 1, .inr (.inl oo))) :: wV M Y1 G' S') := hD
  generalize t.heap = H at hP hS ⊢
  show W _ _ _ _ _ _ _ _ _ _ _ _ _ _ _ (F0 m 13 ls [.ref qx])
  refine W.widen (k := G'.gc - G0.gc) (n := G'.gs - G0.gs) (Nat.le_of_eq (Nat.zero_add _)) (Nat.le_of_eq (Nat.zero_add _)) ?_
  refine lv_astore (lv' := [(4, .ref qx), (0, .ref M.o_Vt), (1, .int p0), (2, .int p1), (3, .ref ou)]) hx hb d_La_run_13 hl (by decide) rfl (fun ls hl => ?_)
  refine lv_iconst (v := 1) hx hb d_La_run_15 (by decide) ?_
  exact W.iret (v := 1) hx hb hr (fun t ht hW => ⟨⟨1, Y1, rfl, rfl, by rw [ht]; exact hP, va_K.moved hW.alike hK, hD⟩, hS.F ht⟩) hS.2.2 d_La_run_16
