def tb_cf (ks : Int32) (nl : Nat) (nx : Nat → Int32) : Nat → Int32
  | 0 => 0
  | j + 1 => tb_cf ks nl nx j + (if tb_free ks nl nx (nI (j + 2)) = 0 then 0 else 1)
set_option maxHeartbeats 4000000 in
set_option maxRecDepth 100000 in
/-- how many clusters are free -/
theorem c_Tb_countFree (l : Launch) (dC : Nat → ClassId) (dI : Nat → Nat → Nat) (b0 b1 b2 h0 sz : Nat) (cl be co le ro sa : Int32) (kN : Nat) (hkN : kN ≤ 600) (c1 : ClassId) (nl : Nat) (nx : Nat → Int32) (hnl : nl < 2 ^ 31) : Met l y_Tb_countFree (.code y_Tb_countFree b_Tb_countFree 3 (some .int) :: V_Tb) ({ frames := 1, cells := 0, slots := 0, locals := 21 }) (va_Pc [.ref b0] (fun U => U.heap.size = sz ∧ at_ (dC, dI) (fun _ => True) [(b0, .inr (4, [.ref h0, .int cl, .int be, .int co, .int le, .int ro, .int sa, .int (nI kN), .ref b1, .ref b2])), (b1, .inl (c1, nl, .inl nx))] [(c1, .int)] U)) (va_Qi (fun (r : Int32) (u : Unit) => r = tb_cf (nI kN) nl nx kN) (fun (u : Unit) t => at_ (dC, dI) (va_A [(b0, .inr (4, [.ref h0, .int cl, .int be, .int co, .int le, .int ro, .int sa, .int (nI kN), .ref b1, .ref b2])), (b1, .inl (c1, nl, .inl nx))] sz) [(b0, .inr (4, [.ref h0, .int cl, .int be, .int co, .int le, .int ro, .int sa, .int (nI kN), .ref b1, .ref b2])), (b1, .inl (c1, nl, .inl nx))] [(c1, .int)] t) (va_A [(b0, .inr (4, [.ref h0, .int cl, .int be, .int co, .int le, .int ro, .int sa, .int (nI kN), .ref b1, .ref b2])), (b1, .inl (c1, nl, .inl nx))] sz)) 0 0 (va_A [(b0, .inr (4, [.ref h0, .int cl, .int be, .int co, .int le, .int ro, .int sa, .int (nI kN), .ref b1, .ref b2])), (b1, .inl (c1, nl, .inl nx))] sz) := by
  refine Met.ofW (cc := b_Tb_countFree) (maxL := 3) (ret := (some .int)) (by decide) rfl ?_
  intro p e s m args below meth c s₁ B hml hv
  obtain ⟨rfl, hsz, hP, hK, hD0⟩ := hv
  have hx := B.exec
  have hb := B.bytes
  have hr := B.returns
  have hts0 := atoms_spec (ws := .code y_Tb_countFree b_Tb_countFree 3 (some .int) :: V_Tb) B.pre
  have hts : ∀ w ∈ V_Tb, w.before ([.ref b0] : List Value).toArray s = true := fun w h => hts0 w (List.mem_cons_of_mem _ h)
  have hown : s.vm.findClass R_Tb = some m.cls := findClass_of_methodNamed B.named
  have hlocks := B.notSynchronized
  subst hsz
  have hD := hD0.self (sz := s.heap.size)
  generalize hAe : va_A [(b0, .inr (4, [.ref h0, .int cl, .int be, .int co, .int le, .int ro, .int sa, .int (nI kN), .ref b1, .ref b2])), (b1, .inl (c1, nl, .inl nx))] s.heap.size = A at hD ⊢
  have hA : ∀ q : Nat, s.heap.size ≤ q → A q := fun q h => by rw [← hAe]; exact Or.inr h
  have hS : va_S A s.heap s.heap [] := va_S.rf
  have hP : va_P (dC, dI) classes [(b0, .inr (4, [.ref h0, .int cl, .int be, .int co, .int le, .int ro, .int sa, .int (nI kN), .ref b1, .ref b2])), (b1, .inl (c1, nl, .inl nx))] s.heap := hP
  have hK : va_K (dC, dI) classes [(c1, .int)] s := hK
  have hl := lv_entry ([.ref b0]) (n := 3) (Nat.le_of_ble_eq_true rfl)
  rw [lg_entry_eq]
  generalize (lg_sl ([.ref b0]) ++ List.replicate (3 - (lg_sl ([.ref b0])).length) Slot.unset).toArray = ls at hl ⊢
  have hl : lv_has ls 3 [(0, .ref b0)] := hl
  refine qabs (fun Q hQ => ?_)
  have hL4 : ∀ (k_ : Nat) (j : Nat) (H : Heap) (locs : List Loc) (ls : Array Slot), kN - j < k_ → (j ≤ kN) → va_P (dC, dI) classes [(b0, .inr (4, [.ref h0, .int cl, .int be, .int co, .int le, .int ro, .int sa, .int (nI kN), .ref b1, .ref b2])), (b1, .inl (c1, nl, .inl nx))] H → va_D A [(b0, .inr (4, [.ref h0, .int cl, .int be, .int co, .int le, .int ro, .int sa, .int (nI kN), .ref b1, .ref b2])), (b1, .inl (c1, nl, .inl nx))] → va_S A s.heap H locs → lv_has ls 3 [(0, .ref b0), (1, .int (tb_cf (nI kN) nl nx j)), (2, .int (nI (j + 2)))] → W p l e ({ frames := 1, cells := 0, slots := 0, locals := 21 }) s m ([.ref b0] : List Value).toArray below meth c H locs 0 0 Q (F0 m 4 ls []) := by
    intro k_
    induction k_ with
    | zero => intro j H locs ls hk_; exact absurd hk_ (Nat.not_lt_zero _)
    | succ k_ ih =>
      intro j H locs ls hk_ hj hP hD hS hl
      refine lv_iload_n hx hb d_Tb_countFree_4 rfl (lv_at hl 2 rfl) ?_
      refine lv_aload_n hx hb d_Tb_countFree_5 rfl (lv_at hl 0 rfl) ?_
      refine va_get (D := (dC, dI)) (ci := 4) (v := .int (nI kN)) (C := R_Tb) (T := F_Tb) (N := 10) hx hb hts i_Tb hown hK hP 0 rfl rfl 7 (by decide) (hts _ (k_Tb_13)) (fun _ h9 => h9) rfl d_Tb_countFree_6 ?_
      refine lv_iconst (v := 2) hx hb d_Tb_countFree_9 (by decide) ?_
      refine lv_iadd hx hb d_Tb_countFree_10 ?_
      refine lv_icmp_ge (tgt := 36) hx hb d_Tb_countFree_11 (by decide) (fun c_1 => ?_) (fun c_1 => ?_)
      · have hj9 : j = kN := by have q := c_1; rw [show nI kN + 2 = nI (kN + 2) from nI_add kN 2] at q; have := (nI_leI (by omega) (by omega)).mp q; omega
        refine lv_iload_n hx hb d_Tb_countFree_36 rfl (lv_at hl 1 rfl) ?_
        rw [hQ]
        exact W.iret (v := (tb_cf (nI kN) nl nx j)) hx hb hr (fun t ht hW => ⟨⟨(tb_cf (nI kN) nl nx j), (), rfl, by rw [hj9], by rw [ht]; exact hP, va_K.moved hW.alike hK, hD⟩, hS.F ht⟩) hS.2.2 d_Tb_countFree_37
      · have hlt : j < kN := by have q := c_1; rw [show nI kN + 2 = nI (kN + 2) from nI_add kN 2] at q; have := Nat.lt_of_not_le (fun h => q ((nI_leI (by omega) (by omega)).mpr h)); omega
        refine lv_iload_n hx hb d_Tb_countFree_14 rfl (lv_at hl 1 rfl) ?_
        refine lv_aload_n hx hb d_Tb_countFree_15 rfl (lv_at hl 0 rfl) ?_
        refine lv_iload_n hx hb d_Tb_countFree_16 rfl (lv_at hl 2 rfl) ?_
        have hPc := hP.sub (ws' := [(b0, .inr (4, [.ref h0, .int cl, .int be, .int co, .int le, .int ro, .int sa, .int (nI kN), .ref b1, .ref b2])), (b1, .inl (c1, nl, .inl nx))]) [0, 1] rfl
        have hDc := hD.sub (ws' := [(b0, .inr (4, [.ref h0, .int cl, .int be, .int co, .int le, .int ro, .int sa, .int (nI kN), .ref b1, .ref b2])), (b1, .inl (c1, nl, .inl nx))]) [0, 1] (by decide) rfl
        have hKc := hK.sub (tys' := [(c1, .int)]) [0] rfl
        have hFc := va_free (wc := [(b0, .inr (4, [.ref h0, .int cl, .int be, .int co, .int le, .int ro, .int sa, .int (nI kN), .ref b1, .ref b2])), (b1, .inl (c1, nl, .inl nx))]) hD hS hA [0, 1] rfl
        refine va_calli (va_runV (As := [.int (nI (j + 2))]) (rest := [.int (tb_cf (nI kN) nl nx j)]) ⟨hx, hb, hml, hown, hts⟩ (c_Tb_isFree l dC dI b0 b1 b2 h0 H.size cl be co le ro sa (nI kN) c1 nl nx hnl (nI (j + 2))) (cwV 1 hts (gwV good_Tb (k_Tb_103) (k_Tb_63) (k_Tb_64) (k_Tb_0) (wcs (k_Tb_65) (fun _ h => h))) rfl rfl rfl (by decide +kernel) ⟨Nat.le_of_ble_eq_true rfl, Nat.le_of_ble_eq_true rfl⟩) (pv_of hPc hKc hDc (va_recv hKc hPc (ci := 4) (q0 := 0) rfl rfl)) rfl rfl hl.1 rfl (lv_room (Nat.le_of_ble_eq_true rfl)) d_Tb_countFree_17 ⟨by decide, by decide⟩) hS (fun q _ h => hFc q h) hFc (fun r_2 u t H1 locs ht hvm hw hB hz1 hk1 hS => ?_)
        have er_2 := hw
        obtain ⟨hP1, hK1, hD1⟩ := hB
        rw [ht] at hP1
        have hP1 : va_P (dC, dI) classes [(b0, .inr (4, [.ref h0, .int cl, .int be, .int co, .int le, .int ro, .int sa, .int (nI kN), .ref b1, .ref b2])), (b1, .inl (c1, nl, .inl nx))] H1 := hP1
        have hD1 : va_D _ [(b0, .inr (4, [.ref h0, .int cl, .int be, .int co, .int le, .int ro, .int sa, .int (nI kN), .ref b1, .ref b2])), (b1, .inl (c1, nl, .inl nx))] := hD1
        obtain ⟨hP, hD⟩ := va_join (wr := []) (w1 := [(b0, .inr (4, [.ref h0, .int cl, .int be, .int co, .int le, .int ro, .int sa, .int (nI kN), .ref b1, .ref b2])), (b1, .inl (c1, nl, .inl nx))]) hP hD [0, 1] [] rfl rfl (by decide) (by decide) hk1 hFc hP1 hD1
        generalize H1 = H at hP hS ⊢
        have hP : va_P (dC, dI) classes [(b0, .inr (4, [.ref h0, .int cl, .int be, .int co, .int le, .int ro, .int sa, .int (nI kN), .ref b1, .ref b2])), (b1, .inl (c1, nl, .inl nx))] H := hP
        have hD : va_D A [(b0, .inr (4, [.ref h0, .int cl, .int be, .int co, .int le, .int ro, .int sa, .int (nI kN), .ref b1, .ref b2])), (b1, .inl (c1, nl, .inl nx))] := hD
        refine lv_if_eq (tgt := 27) hx hb d_Tb_countFree_20 (by decide) (fun c_3 => ?_) (fun c_3 => ?_)
        · refine lv_iconst (v := 0) hx hb d_Tb_countFree_27 (by decide) ?_
          refine lv_iadd hx hb d_Tb_countFree_28 ?_
          refine lv_topi (fun x_4 ex_4 => ?_)
          refine lv_istore_n (lv' := [(1, .int x_4), (0, .ref b0), (2, .int (nI (j + 2)))]) hx hb d_Tb_countFree_29 rfl hl (by decide) rfl (fun ls hl => ?_)
          refine lv_iinc (v := nI (j + 1 + 2)) (lv' := [(2, .int (nI (j + 1 + 2))), (1, .int x_4), (0, .ref b0)]) hx hb d_Tb_countFree_30 hl (k := 2) rfl (by exact nI_1 (j + 2)) (by decide) rfl (fun ls hl => ?_)
          refine lv_goto (tgt := 4) hx hb d_Tb_countFree_33 (by decide) ?_
          have hx9 : x_4 = tb_cf (nI kN) nl nx (j + 1) := by rw [ex_4, tb_cf, ← er_2, if_pos c_3]
          subst hx9
          exact ih (j + 1) _ _ _ (by omega) hlt hP hD hS (lv_sub hl [2, 1, 0] rfl)
        · refine lv_iconst (v := 1) hx hb d_Tb_countFree_23 (by decide) ?_
          refine lv_goto (tgt := 28) hx hb d_Tb_countFree_24 (by decide) ?_
          refine lv_iadd hx hb d_Tb_countFree_28 ?_
          refine lv_topi (fun x_5 ex_5 => ?_)
          refine lv_istore_n (lv' := [(1, .int x_5), (0, .ref b0), (2, .int (nI (j + 2)))]) hx hb d_Tb_countFree_29 rfl hl (by decide) rfl (fun ls hl => ?_)
          refine lv_iinc (v := nI (j + 1 + 2)) (lv' := [(2, .int (nI (j + 1 + 2))), (1, .int x_5), (0, .ref b0)]) hx hb d_Tb_countFree_30 hl (k := 2) rfl (by exact nI_1 (j + 2)) (by decide) rfl (fun ls hl => ?_)
          refine lv_goto (tgt := 4) hx hb d_Tb_countFree_33 (by decide) ?_
          have hx9 : x_5 = tb_cf (nI kN) nl nx (j + 1) := by rw [ex_5, tb_cf, ← er_2, if_neg c_3]
          subst hx9
          exact ih (j + 1) _ _ _ (by omega) hlt hP hD hS (lv_sub hl [2, 1, 0] rfl)
  refine lv_iconst (v := 0) hx hb d_Tb_countFree_0 (by decide) ?_
  refine lv_istore_n (lv' := [(1, .int 0), (0, .ref b0)]) hx hb d_Tb_countFree_1 rfl hl (by decide) rfl (fun ls hl => ?_)
  refine lv_iconst (v := 2) hx hb d_Tb_countFree_2 (by decide) ?_
  refine lv_istore_n (lv' := [(2, .int 2), (1, .int 0), (0, .ref b0)]) hx hb d_Tb_countFree_3 rfl hl (by decide) rfl (fun ls hl => ?_)
  exact hL4 (kN + 1) 0 _ _ _ (by omega) (Nat.zero_le _) hP hD hS (lv_sub hl [2, 1, 0] rfl)
def wo_sum (n : Nat) (f : Nat → Int32) (a : Int32) : Nat → Int32
  | 0 => 0
  | i + 1 => (((wo_sum n f a i &&& 1) * 128 + (wo_sum n f a i >>> ((1 : Int32) &&& 31))) + dk_one n f (a + nI i)) &&& 255
set_option maxHeartbeats 4000000 in
set_option maxRecDepth 100000 in
/-- the sum of a short name -/
theorem c_Wo_sum (l : Launch) (dC : Nat → ClassId) (dI : Nat → Nat → Nat) (h0 h1 sz : Nat) (cB : ClassId) (sec pw : Int32) (n : Nat) (f : Nat → Int32) (h4 : 4 ≤ n) (hn : n < 2 ^ 31) (p1 : Int32) : Met l y_Wo_sum (.code y_Wo_sum b_Wo_sum 4 (some .int) :: V_Wo) ({ frames := 1, cells := 0, slots := 0, locals := 21 }) (va_Pc [.ref h0, .int p1] (fun U => U.heap.size = sz ∧ at_ (dC, dI) (fun _ => True) [(h0, .inr (0, [.int sec, .ref h1, .int pw])), (h1, .inl (cB, n, .inl f))] [(cB, .byte)] U)) (va_Qi (fun (r : Int32) (u : Unit) => r = wo_sum n f p1 11) (fun (u : Unit) t => at_ (dC, dI) (va_A [(h0, .inr (0, [.int sec, .ref h1, .int pw])), (h1, .inl (cB, n, .inl f))] sz) [(h0, .inr (0, [.int sec, .ref h1, .int pw])), (h1, .inl (cB, n, .inl f))] [(cB, .byte)] t) (va_A [(h0, .inr (0, [.int sec, .ref h1, .int pw])), (h1, .inl (cB, n, .inl f))] sz)) 0 0 (va_A [(h0, .inr (0, [.int sec, .ref h1, .int pw])), (h1, .inl (cB, n, .inl f))] sz) := by
  refine Met.ofW (cc := b_Wo_sum) (maxL := 4) (ret := (some .int)) (by decide) rfl ?_
  intro p e s m args below meth c s₁ B hml hv
  obtain ⟨rfl, hsz, hP, hK, hD0⟩ := hv
  have hx := B.exec
  have hb := B.bytes
  have hr := B.returns
  have hts0 := atoms_spec (ws := .code y_Wo_sum b_Wo_sum 4 (some .int) :: V_Wo) B.pre
  have hts : ∀ w ∈ V_Wo, w.before ([.ref h0, .int p1] : List Value).toArray s = true := fun w h => hts0 w (List.mem_cons_of_mem _ h)
  have hown : s.vm.findClass R_Wo = some m.cls := findClass_of_methodNamed B.named
  have hlocks := B.notSynchronized
  subst hsz
  have hD := hD0.self (sz := s.heap.size)
  generalize hAe : va_A [(h0, .inr (0, [.int sec, .ref h1, .int pw])), (h1, .inl (cB, n, .inl f))] s.heap.size = A at hD ⊢
  have hA : ∀ q : Nat, s.heap.size ≤ q → A q := fun q h => by rw [← hAe]; exact Or.inr h
  have hS : va_S A s.heap s.heap [] := va_S.rf
  have hP : va_P (dC, dI) classes [(h0, .inr (0, [.int sec, .ref h1, .int pw])), (h1, .inl (cB, n, .inl f))] s.heap := hP
  have hK : va_K (dC, dI) classes [(cB, .byte)] s := hK
  have hl := lv_entry ([.ref h0, .int p1]) (n := 4) (Nat.le_of_ble_eq_true rfl)
  rw [lg_entry_eq]
  generalize (lg_sl ([.ref h0, .int p1]) ++ List.replicate (4 - (lg_sl ([.ref h0, .int p1])).length) Slot.unset).toArray = ls at hl ⊢
  have hl : lv_has ls 4 [(0, .ref h0), (1, .int p1)] := hl
  refine qabs (fun Q hQ => ?_)
  have hL4 : ∀ (k_ : Nat) (i : Nat) (H : Heap) (locs : List Loc) (ls : Array Slot), 11 - i < k_ → (i ≤ 11) → va_P (dC, dI) classes [(h0, .inr (0, [.int sec, .ref h1, .int pw])), (h1, .inl (cB, n, .inl f))] H → va_D A [(h0, .inr (0, [.int sec, .ref h1, .int pw])), (h1, .inl (cB, n, .inl f))] → va_S A s.heap H locs → lv_has ls 4 [(0, .ref h0), (1, .int p1), (2, .int (wo_sum n f p1 i)), (3, .int (nI i))] → W p l e ({ frames := 1, cells := 0, slots := 0, locals := 21 }) s m ([.ref h0, .int p1] : List Value).toArray below meth c H locs 0 0 Q (F0 m 4 ls []) := by
    intro k_
    induction k_ with
    | zero => intro i H locs ls hk_; exact absurd hk_ (Nat.not_lt_zero _)
    | succ k_ ih =>
      intro i H locs ls hk_ hi hP hD hS hl
      refine lv_iload_n hx hb d_Wo_sum_4 rfl (lv_at hl 3 rfl) ?_
      refine lv_bipush (v := 11) hx hb d_Wo_sum_5 (by decide) ?_
      refine lv_icmp_ge (tgt := 40) hx hb d_Wo_sum_7 (by decide) (fun c_1 => ?_) (fun c_1 => ?_)
      · have hi9 : i = 11 := Nat.le_antisymm hi ((nI_leI (a := 11) (by decide) (by omega)).mp c_1)
        refine lv_iload_n hx hb d_Wo_sum_40 rfl (lv_at hl 2 rfl) ?_
        rw [hQ]
        exact W.iret (v := (wo_sum n f p1 i)) hx hb hr (fun t ht hW => ⟨⟨(wo_sum n f p1 i), (), rfl, by rw [hi9], by rw [ht]; exact hP, va_K.moved hW.alike hK, hD⟩, hS.F ht⟩) hS.2.2 d_Wo_sum_41
      · have hlt : i < 11 := Nat.lt_of_not_le (fun h => c_1 ((nI_leI (a := 11) (by decide) (by omega)).mpr h))
        refine lv_iload_n hx hb d_Wo_sum_10 rfl (lv_at hl 2 rfl) ?_
        refine lv_iconst (v := 1) hx hb d_Wo_sum_11 (by decide) ?_
        refine lv_iand hx hb d_Wo_sum_12 ?_
        refine lv_sipush (v := 128) hx hb d_Wo_sum_13 (by decide) ?_
        refine lv_imul hx hb d_Wo_sum_16 ?_
        refine lv_iload_n hx hb d_Wo_sum_17 rfl (lv_at hl 2 rfl) ?_
        refine lv_iconst (v := 1) hx hb d_Wo_sum_18 (by decide) ?_
        refine lv_ishr hx hb d_Wo_sum_19 ?_
        refine lv_iadd hx hb d_Wo_sum_20 ?_
        refine lv_aload_n hx hb d_Wo_sum_21 rfl (lv_at hl 0 rfl) ?_
        refine lv_iload_n hx hb d_Wo_sum_22 rfl (lv_at hl 1 rfl) ?_
        refine lv_iload_n hx hb d_Wo_sum_23 rfl (lv_at hl 3 rfl) ?_
        refine lv_iadd hx hb d_Wo_sum_24 ?_
        have hPc := hP.sub (ws' := [(h0, .inr (0, [.int sec, .ref h1, .int pw])), (h1, .inl (cB, n, .inl f))]) [0, 1] rfl
        have hDc := hD.sub (ws' := [(h0, .inr (0, [.int sec, .ref h1, .int pw])), (h1, .inl (cB, n, .inl f))]) [0, 1] (by decide) rfl
        have hKc := hK.sub (tys' := [(cB, .byte)]) [0] rfl
        have hFc := va_free (wc := [(h0, .inr (0, [.int sec, .ref h1, .int pw])), (h1, .inl (cB, n, .inl f))]) hD hS hA [0, 1] rfl
        refine va_calli (va_runV (As := [.int (p1 + (nI i))]) (rest := [.int ((((wo_sum n f p1 i) &&& 1) * 128) + ((wo_sum n f p1 i) >>> ((1 : Int32) &&& 31)))]) ⟨hx, hb, hml, hown, hts⟩ (c_Dk_one l dC dI h0 h1 H.size cB sec pw n f h4 hn (p1 + (nI i))) (cwV 1 hts (gwV good_Wo (k_Wo_3) (u_Wo_Dk _ k_Dk_20) (u_Wo_Dk _ k_Dk_21) (u_Wo_Dk _ k_Dk_0) (wcs (u_Wo_Dk _ k_Dk_22) u_Wo_Dk)) rfl rfl rfl (by decide +kernel) ⟨Nat.le_of_ble_eq_true rfl, Nat.le_of_ble_eq_true rfl⟩) (pv_of hPc hKc hDc (va_recv hKc hPc (ci := 0) (q0 := 0) rfl rfl)) rfl rfl hl.1 rfl (lv_room (Nat.le_of_ble_eq_true rfl)) d_Wo_sum_25 ⟨by decide, by decide⟩) hS (fun q _ h => hFc q h) hFc (fun r_2 u t H1 locs ht hvm hw hB hz1 hk1 hS => ?_)
        obtain ⟨er_2, rfl⟩ := hw
        obtain ⟨hP1, hK1, hD1⟩ := hB
        rw [ht] at hP1
        have hP1 : va_P (dC, dI) classes [(h0, .inr (0, [.int sec, .ref h1, .int pw])), (h1, .inl (cB, n, .inl f))] H1 := hP1
        have hD1 : va_D _ [(h0, .inr (0, [.int sec, .ref h1, .int pw])), (h1, .inl (cB, n, .inl f))] := hD1
        obtain ⟨hP, hD⟩ := va_join (wr := []) (w1 := [(h0, .inr (0, [.int sec, .ref h1, .int pw])), (h1, .inl (cB, n, .inl f))]) hP hD [0, 1] [] rfl rfl (by decide) (by decide) hk1 hFc hP1 hD1
        generalize H1 = H at hP hS ⊢
        have hP : va_P (dC, dI) classes [(h0, .inr (0, [.int sec, .ref h1, .int pw])), (h1, .inl (cB, n, .inl f))] H := hP
        have hD : va_D A [(h0, .inr (0, [.int sec, .ref h1, .int pw])), (h1, .inl (cB, n, .inl f))] := hD
        refine lv_iadd hx hb d_Wo_sum_28 ?_
        refine lv_sipush (v := 255) hx hb d_Wo_sum_29 (by decide) ?_
        refine lv_iand hx hb d_Wo_sum_32 ?_
        refine lv_topi (fun x_3 ex_3 => ?_)
        refine lv_istore_n (lv' := [(2, .int x_3), (0, .ref h0), (1, .int p1), (3, .int (nI i))]) hx hb d_Wo_sum_33 rfl hl (by decide) rfl (fun ls hl => ?_)
        refine lv_iinc (v := nI (i + 1)) (lv' := [(3, .int (nI (i + 1))), (2, .int x_3), (0, .ref h0), (1, .int p1)]) hx hb d_Wo_sum_34 hl (k := 3) rfl (by exact nI_1 i) (by decide) rfl (fun ls hl => ?_)
        refine lv_goto (tgt := 4) hx hb d_Wo_sum_37 (by decide) ?_
        have hx9 : x_3 = wo_sum n f p1 (i + 1) := by rw [ex_3, wo_sum, ← er_2]
        subst hx9
        exact ih (i + 1) _ _ _ (by omega) hlt hP hD hS (lv_sub hl [2, 3, 1, 0] rfl)
  refine lv_iconst (v := 0) hx hb d_Wo_sum_0 (by decide) ?_
  refine lv_istore_n (lv' := [(2, .int 0), (0, .ref h0), (1, .int p1)]) hx hb d_Wo_sum_1 rfl hl (by decide) rfl (fun ls hl => ?_)
  refine lv_iconst (v := 0) hx hb d_Wo_sum_2 (by decide) ?_
  refine lv_istore_n (lv' := [(3, .int 0), (2, .int 0), (0, .ref h0), (1, .int p1)]) hx hb d_Wo_sum_3 rfl hl (by decide) rfl (fun ls hl => ?_)
  exact hL4 12 0 _ _ _ (by omega) (Nat.zero_le _) hP hD hS (lv_sub hl [2, 3, 1, 0] rfl)
