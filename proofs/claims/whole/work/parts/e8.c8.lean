set_option maxHeartbeats 4000000 in
set_option maxRecDepth 100000 in
theorem l_Pl_listChain (l : Launch) (dC : Nat → ClassId) (dI : Nat → Nat → Nat) {K : Nat} {M : CA} {E : (Nat → Prop) → State → Prop} (X : ly_X l dC dI K M E) (sz : Nat) {Y : CT} {G : CG} {S S' : CS} {p0 : Int32} {p1 : Int32} (h : f_Pl_listChain K G S p0 p1 = some S') : Met l y_Pl_listChain (.code y_Pl_listChain cb_Pl_listChain 10 none :: V_Vq) ({ frames := 1, cells := 0, slots := 0, locals := 21 }) (va_Pc [.ref M.o_Pl, .int p0, .int p1] (fun U => U.heap.size = sz ∧ at_ (dC, dI) (fun _ => True) (wV M Y G S) (tV M) U ∧ E (va_A (wV M Y G S) sz) U)) (va_Qv (fun (u : Unit) => True) (fun (u : Unit) t => at_ (dC, dI) (va_A (wV M Y G S) sz) (wV M Y G S') (tV M) t) (va_A (wV M Y G S) sz)) 0 0 (va_A (wV M Y G S) sz) := by
  refine Met.ofW (cc := cb_Pl_listChain) (maxL := 10) (ret := none) (by decide) rfl ?_
  intro p e s m args below meth c s₁ B hml hv
  obtain ⟨rfl, hsz, ⟨hP, hK, hD0⟩, hE⟩ := hv
  have hx := B.exec
  have hb := B.bytes
  have hr := B.returns
  have hts0 := atoms_spec (ws := .code y_Pl_listChain cb_Pl_listChain 10 none :: V_Vq) B.pre
  have hts : ∀ w ∈ V_Vq, w.before ([.ref M.o_Pl, .int p0, .int p1] : List Value).toArray s = true := fun w h => hts0 w (List.mem_cons_of_mem _ h)
  have hown : s.vm.findClass R_Pl = some m.cls := findClass_of_methodNamed B.named
  subst hsz
  have hD := hD0.self (sz := s.heap.size)
  generalize hAe : va_A (wV M Y G S) s.heap.size = A at hD hE ⊢
  have hA : ∀ q : Nat, s.heap.size ≤ q → A q := fun q h => by rw [← hAe]; exact Or.inr h
  have hS : va_S A s.heap s.heap [] := va_S.rf
  have hP : va_P (dC, dI) classes (wV M Y G S) s.heap := hP
  have hK : va_K (dC, dI) classes (tV M) s := hK
  have hEw : ∀ (H : Heap) (locs : List Loc), va_S A s.heap H locs → ∀ U : State, U.heap = H → s.WarmedH U.vm → E A U := fun H locs hS U hU hW => X.kept A s U H locs hE hS hU hW
  have hl := lv_entry ([.ref M.o_Pl, .int p0, .int p1]) (n := 10) (Nat.le_of_ble_eq_true rfl)
  rw [lg_entry_eq]
  generalize (lg_sl ([.ref M.o_Pl, .int p0, .int p1]) ++ List.replicate (10 - (lg_sl ([.ref M.o_Pl, .int p0, .int p1])).length) Slot.unset).toArray = ls at hl ⊢
  have hl : lv_has ls 10 [(0, .ref M.o_Pl), (1, .int p0), (2, .int p1)] := hl
  refine qabs (fun Q hQ => ?_)
  have hB_121 : ∀ (rec_30 : Int32 → Int32 → Int32 → Int32 → Int32 → CS → Option (CS)) (hr_30 : ∀ (y_3 : Int32) (y_4 : Int32) (y_5 : Int32) (y_6 : Int32) (y_7 : Int32) (S : CS) (H : Heap) (locs : List Loc) (ls : Array Slot), rec_30 y_3 y_4 y_5 y_6 y_7 S = some S' → va_P (dC, dI) classes (wV M Y G S) H → va_D A (wV M Y G S) → va_S A s.heap H locs → lv_has ls 10 [(0, .ref M.o_Pl), (3, .int y_3), (4, .int y_4), (5, .int y_5), (6, .int y_6), (7, .int y_7)] → W p l e ({ frames := 1, cells := 0, slots := 0, locals := 21 }) s m ([.ref M.o_Pl, .int p0, .int p1] : List Value).toArray below meth c H locs 0 0 Q (F0 m 30 ls [])), ∀ (y_3 : Int32) (y_4 : Int32) (y_5 : Int32) (y_6 : Int32) (y_7 : Int32) (S : CS) (H : Heap) (locs : List Loc) (ls : Array Slot), f_Pl_listChain_121 K G rec_30 y_3 y_4 y_5 y_6 y_7 S = some S' → va_P (dC, dI) classes (wV M Y G S) H → va_D A (wV M Y G S) → va_S A s.heap H locs → lv_has ls 10 [(0, .ref M.o_Pl), (3, .int y_3), (4, .int y_4), (5, .int y_5), (6, .int y_6), (7, .int y_7)] → W p l e ({ frames := 1, cells := 0, slots := 0, locals := 21 }) s m ([.ref M.o_Pl, .int p0, .int p1] : List Value).toArray below meth c H locs 0 0 Q (F0 m 121 ls []) := by
    intro rec_30 hr_30 y_3 y_4 y_5 y_6 y_7 S H locs ls h hP hD hS hl
    rw [f_Pl_listChain_121] at h
    refine lv_aload_n hx hb d_Pl_listChain_121 rfl (lv_at hl 0 rfl) ?_
    refine va_get (D := (dC, dI)) (ci := 9) (v := .ref M.o_Tb) (C := R_Pl) (T := F_Pl) (N := 17) hx hb hts (fun w h => u_Vq_Pl w (i_Pl w h)) hown hK hP 7 rfl rfl 1 (by decide) (hts _ (u_Vq_Pl _ k_Pl_12)) (fun _ h9 => h9) rfl d_Pl_listChain_122 ?_
    refine lv_iload hx hb d_Pl_listChain_125 (lv_at hl 4 rfl) ?_
    obtain ⟨r_14, S_14, hc_14, h⟩ := lf_cE h
    have hFc := lx_free hD hS hA
    refine va_calli (va_runV (As := [.int y_6]) (rest := []) ⟨hx, hb, hml, hown, hts⟩ (l_Tb_nextOf l dC dI X _ hc_14) (cwV 1 hts (gwV good_Vq (u_Vq_Pl _ k_Pl_107) (u_Vq_Tb _ k_Tb_43) (u_Vq_Tb _ k_Tb_44) (u_Vq_Tb _ k_Tb_0) (wcs (u_Vq_Tb _ k_Tb_45) (fun _ h => h))) rfl rfl rfl (by decide +kernel) ⟨Nat.le_of_ble_eq_true rfl, Nat.le_of_ble_eq_true rfl⟩) (pv_ofE (X.same _) (fun U z1 z2 => X.mono _ _ U hFc (hEw _ _ hS U z1 z2)) hP hK hD (va_recv hK hP (ci := 4) (q0 := 3) rfl rfl)) rfl rfl hl.1 rfl (lv_room (Nat.le_of_ble_eq_true rfl)) d_Pl_listChain_127 ⟨by decide, by decide⟩) hS (fun q _ h => hFc q h) hFc (fun r_ u t H locs ht hvm hw hB hz1 hk1 hS => ?_)
    rw [hw]
    obtain ⟨hP, -, hD⟩ := hB
    rw [ht] at hP
    have hD := lx_dj hD hFc
    refine lv_istore (lv' := [(6, .int r_14), (0, .ref M.o_Pl), (3, .int y_3), (4, .int y_4), (5, .int y_5), (7, .int y_7)]) hx hb d_Pl_listChain_130 hl (by decide) rfl (fun ls hl => ?_)
    obtain ⟨x_15, ex_15, h⟩ := lf_lX h
    refine lv_iinc (v := x_15) (lv' := [(7, .int x_15), (6, .int r_14), (0, .ref M.o_Pl), (3, .int y_3), (4, .int y_4), (5, .int y_5)]) hx hb d_Pl_listChain_132 hl (k := 5) rfl (by rw [ex_15]; rfl) (by decide) rfl (fun ls hl => ?_)
    refine lv_goto (tgt := 30) hx hb d_Pl_listChain_135 (by decide) ?_
    exact hr_30 y_3 y_4 y_5 r_14 x_15 S_14 _ _ _ h hP hD hS (lv_sub hl [2, 3, 4, 5, 1, 0] rfl)
  have hB_85 : ∀ (rec_30 : Int32 → Int32 → Int32 → Int32 → Int32 → CS → Option (CS)) (hr_30 : ∀ (y_3 : Int32) (y_4 : Int32) (y_5 : Int32) (y_6 : Int32) (y_7 : Int32) (S : CS) (H : Heap) (locs : List Loc) (ls : Array Slot), rec_30 y_3 y_4 y_5 y_6 y_7 S = some S' → va_P (dC, dI) classes (wV M Y G S) H → va_D A (wV M Y G S) → va_S A s.heap H locs → lv_has ls 10 [(0, .ref M.o_Pl), (3, .int y_3), (4, .int y_4), (5, .int y_5), (6, .int y_6), (7, .int y_7)] → W p l e ({ frames := 1, cells := 0, slots := 0, locals := 21 }) s m ([.ref M.o_Pl, .int p0, .int p1] : List Value).toArray below meth c H locs 0 0 Q (F0 m 30 ls [])) (k : Nat), ∀ (y_3 : Int32) (y_4 : Int32) (y_5 : Int32) (y_6 : Int32) (y_7 : Int32) (y_8 : Int32) (y_9 : Int32) (S : CS) (H : Heap) (locs : List Loc) (ls : Array Slot), f_Pl_listChain_85 K G rec_30 k y_3 y_4 y_5 y_6 y_7 y_8 y_9 S = some S' → va_P (dC, dI) classes (wV M Y G S) H → va_D A (wV M Y G S) → va_S A s.heap H locs → lv_has ls 10 [(0, .ref M.o_Pl), (3, .int y_3), (4, .int y_4), (5, .int y_5), (6, .int y_6), (7, .int y_7), (8, .int y_8), (9, .int y_9)] → W p l e ({ frames := 1, cells := 0, slots := 0, locals := 21 }) s m ([.ref M.o_Pl, .int p0, .int p1] : List Value).toArray below meth c H locs 0 0 Q (F0 m 85 ls []) := by
    intro rec_30 hr_30 k
    induction k with
    | zero => intro y_3 y_4 y_5 y_6 y_7 y_8 y_9 S H locs ls h; exact lf_no h
    | succ k hr_85 =>
      intro y_3 y_4 y_5 y_6 y_7 y_8 y_9 S H locs ls h hP hD hS hl
      rw [f_Pl_listChain_85] at h
      refine lv_iload hx hb d_Pl_listChain_85 (lv_at hl 7 rfl) ?_
      refine lv_iload_n hx hb d_Pl_listChain_87 rfl (lv_at hl 1 rfl) ?_
      refine lv_icmp_ge (tgt := 121) hx hb d_Pl_listChain_88 (by decide) (fun c_9 => ?_) (fun c_9 => ?_)
      · have h := lf_t h c_9
        exact hB_121 _ hr_30 y_3 y_4 y_5 y_6 y_7 S _ _ _ h hP hD hS (lv_sub hl [0, 1, 2, 3, 4, 5] rfl)
      · have h := lf_f h c_9
        refine lv_iload hx hb d_Pl_listChain_91 (lv_at hl 3 rfl) ?_
        refine lv_if_le (tgt := 121) hx hb d_Pl_listChain_93 (by decide) (fun c_10 => ?_) (fun c_10 => ?_)
        · have h := lf_t h c_10
          exact hB_121 _ hr_30 y_3 y_4 y_5 y_6 y_7 S _ _ _ h hP hD hS (lv_sub hl [0, 1, 2, 3, 4, 5] rfl)
        · have h := lf_f h c_10
          refine lv_aload_n hx hb d_Pl_listChain_96 rfl (lv_at hl 0 rfl) ?_
          refine lv_iload hx hb d_Pl_listChain_97 (lv_at hl 2 rfl) ?_
          refine lv_iload hx hb d_Pl_listChain_99 (lv_at hl 6 rfl) ?_
          refine lv_iconst (v := 2) hx hb d_Pl_listChain_101 (by decide) ?_
          refine lv_isub hx hb d_Pl_listChain_102 ?_
          refine lv_iload_n hx hb d_Pl_listChain_103 rfl (lv_at hl 1 rfl) ?_
          refine lv_imul hx hb d_Pl_listChain_104 ?_
          refine lv_iadd hx hb d_Pl_listChain_105 ?_
          refine lv_iload hx hb d_Pl_listChain_106 (lv_at hl 7 rfl) ?_
          refine lv_iadd hx hb d_Pl_listChain_108 ?_
          obtain ⟨S_11, hc_11, h⟩ := lf_bE h
          have hFc := lx_free hD hS hA
          refine va_callv (va_runV (As := [.int ((y_4 + ((y_8 - 2) * y_3)) + y_9)]) (rest := []) ⟨hx, hb, hml, hown, hts⟩ (l_Pl_addToList l dC dI X _ hc_11) (cwV 1 hts (gwV good_Vq (u_Vq_Pl _ k_Pl_99) (u_Vq_Pl _ k_Pl_100) (u_Vq_Pl _ k_Pl_178) (u_Vq_Pl _ k_Pl_0) (wcs (u_Vq_Pl _ k_Pl_101) (fun _ h => h))) rfl rfl rfl (by decide +kernel) ⟨Nat.le_of_ble_eq_true rfl, Nat.le_of_ble_eq_true rfl⟩) (pv_ofE (X.same _) (fun U z1 z2 => X.mono _ _ U hFc (hEw _ _ hS U z1 z2)) hP hK hD (va_recv hK hP (ci := 9) (q0 := 7) rfl rfl)) rfl rfl hl.1 rfl (lv_room (Nat.le_of_ble_eq_true rfl)) d_Pl_listChain_109 ⟨by decide, by decide⟩) hS (fun q _ h => hFc q h) hFc (fun u t H locs ht hvm hw hB hz1 hk1 hS => ?_)
          obtain ⟨hP, -, hD⟩ := hB
          rw [ht] at hP
          have hD := lx_dj hD hFc
          obtain ⟨x_12, ex_12, h⟩ := lf_lX h
          refine lv_iinc (v := x_12) (lv' := [(5, .int x_12), (0, .ref M.o_Pl), (3, .int y_3), (4, .int y_4), (6, .int y_6), (7, .int y_7), (8, .int y_8), (9, .int y_9)]) hx hb d_Pl_listChain_112 hl (k := 3) rfl (by rw [ex_12]; rfl) (by decide) rfl (fun ls hl => ?_)
          obtain ⟨x_13, ex_13, h⟩ := lf_lX h
          refine lv_iinc (v := x_13) (lv' := [(9, .int x_13), (5, .int x_12), (0, .ref M.o_Pl), (3, .int y_3), (4, .int y_4), (6, .int y_6), (7, .int y_7), (8, .int y_8)]) hx hb d_Pl_listChain_115 hl (k := 7) rfl (by rw [ex_13]; rfl) (by decide) rfl (fun ls hl => ?_)
          refine lv_goto (tgt := 85) hx hb d_Pl_listChain_118 (by decide) ?_
          exact hr_85 y_3 y_4 x_12 y_6 y_7 y_8 x_13 S_11 _ _ _ h hP hD hS (lv_sub hl [2, 3, 4, 1, 5, 6, 7, 0] rfl)
  have hB_80 : ∀ (rec_30 : Int32 → Int32 → Int32 → Int32 → Int32 → CS → Option (CS)) (hr_30 : ∀ (y_3 : Int32) (y_4 : Int32) (y_5 : Int32) (y_6 : Int32) (y_7 : Int32) (S : CS) (H : Heap) (locs : List Loc) (ls : Array Slot), rec_30 y_3 y_4 y_5 y_6 y_7 S = some S' → va_P (dC, dI) classes (wV M Y G S) H → va_D A (wV M Y G S) → va_S A s.heap H locs → lv_has ls 10 [(0, .ref M.o_Pl), (3, .int y_3), (4, .int y_4), (5, .int y_5), (6, .int y_6), (7, .int y_7)] → W p l e ({ frames := 1, cells := 0, slots := 0, locals := 21 }) s m ([.ref M.o_Pl, .int p0, .int p1] : List Value).toArray below meth c H locs 0 0 Q (F0 m 30 ls [])), ∀ (y_3 : Int32) (y_4 : Int32) (y_5 : Int32) (y_6 : Int32) (y_7 : Int32) (z_0 : Int32) (S : CS) (H : Heap) (locs : List Loc) (ls : Array Slot), f_Pl_listChain_80 K G rec_30 y_3 y_4 y_5 y_6 y_7 z_0 S = some S' → va_P (dC, dI) classes (wV M Y G S) H → va_D A (wV M Y G S) → va_S A s.heap H locs → lv_has ls 10 [(0, .ref M.o_Pl), (3, .int y_3), (4, .int y_4), (5, .int y_5), (6, .int y_6), (7, .int y_7)] → W p l e ({ frames := 1, cells := 0, slots := 0, locals := 21 }) s m ([.ref M.o_Pl, .int p0, .int p1] : List Value).toArray below meth c H locs 0 0 Q (F0 m 80 ls [.int z_0]) := by
    intro rec_30 hr_30 y_3 y_4 y_5 y_6 y_7 z_0 S H locs ls h hP hD hS hl
    rw [f_Pl_listChain_80] at h
    refine lv_istore (lv' := [(8, .int z_0), (0, .ref M.o_Pl), (3, .int y_3), (4, .int y_4), (5, .int y_5), (6, .int y_6), (7, .int y_7)]) hx hb d_Pl_listChain_80 hl (by decide) rfl (fun ls hl => ?_)
    refine lv_iconst (v := 0) hx hb d_Pl_listChain_82 (by decide) ?_
    refine lv_istore (lv' := [(9, .int 0), (8, .int z_0), (0, .ref M.o_Pl), (3, .int y_3), (4, .int y_4), (5, .int y_5), (6, .int y_6), (7, .int y_7)]) hx hb d_Pl_listChain_83 hl (by decide) rfl (fun ls hl => ?_)
    exact hB_85 _ hr_30 K y_3 y_4 y_5 y_6 y_7 z_0 0 S _ _ _ h hP hD hS (lv_sub hl [2, 3, 4, 5, 6, 7, 1, 0] rfl)
  have hB_30 : ∀ (k : Nat), ∀ (y_3 : Int32) (y_4 : Int32) (y_5 : Int32) (y_6 : Int32) (y_7 : Int32) (S : CS) (H : Heap) (locs : List Loc) (ls : Array Slot), f_Pl_listChain_30 K G k y_3 y_4 y_5 y_6 y_7 S = some S' → va_P (dC, dI) classes (wV M Y G S) H → va_D A (wV M Y G S) → va_S A s.heap H locs → lv_has ls 10 [(0, .ref M.o_Pl), (3, .int y_3), (4, .int y_4), (5, .int y_5), (6, .int y_6), (7, .int y_7)] → W p l e ({ frames := 1, cells := 0, slots := 0, locals := 21 }) s m ([.ref M.o_Pl, .int p0, .int p1] : List Value).toArray below meth c H locs 0 0 Q (F0 m 30 ls []) := by
    intro k
    induction k with
    | zero => intro y_3 y_4 y_5 y_6 y_7 S H locs ls h; exact lf_no h
    | succ k hr_30 =>
      intro y_3 y_4 y_5 y_6 y_7 S H locs ls h hP hD hS hl
      rw [f_Pl_listChain_30] at h
      refine lv_iload hx hb d_Pl_listChain_30 (lv_at hl 5 rfl) ?_
      refine lv_aload_n hx hb d_Pl_listChain_32 rfl (lv_at hl 0 rfl) ?_
      refine va_get (D := (dC, dI)) (ci := 9) (v := .ref M.o_Tb) (C := R_Pl) (T := F_Pl) (N := 17) hx hb hts (fun w h => u_Vq_Pl w (i_Pl w h)) hown hK hP 7 rfl rfl 1 (by decide) (hts _ (u_Vq_Pl _ k_Pl_12)) (fun _ h9 => h9) rfl d_Pl_listChain_33 ?_
      refine va_get (D := (dC, dI)) (ci := 4) (v := .int S.v_Tb_clusters) (C := R_Tb) (T := F_Tb) (N := 10) hx hb hts (fun w h => u_Vq_Tb w (i_Tb w h)) hown hK hP 3 rfl rfl 7 (by decide) (hts _ (u_Vq_Pl _ k_Pl_4)) (fun _ h9 => h9) rfl d_Pl_listChain_36 ?_
      refine lv_icmp_ge (tgt := 138) hx hb d_Pl_listChain_39 (by decide) (fun c_3 => ?_) (fun c_3 => ?_)
      · have h := lf_t h c_3
        rw [hQ]
        have e2 : S = S' := Option.some.inj h
        have hP := ly_newP e2.symm hP
        have hD := ly_newD e2.symm hD
        exact W.vret hx hb hr (fun t ht hW => ⟨⟨(), rfl, trivial, by rw [ht]; exact hP, va_K.moved hW.alike hK, hD⟩, hS.F ht⟩) hS.2.2 d_Pl_listChain_138
      · have h := lf_f h c_3
        refine lv_aload_n hx hb d_Pl_listChain_42 rfl (lv_at hl 0 rfl) ?_
        refine va_get (D := (dC, dI)) (ci := 9) (v := .ref M.o_Tb) (C := R_Pl) (T := F_Pl) (N := 17) hx hb hts (fun w h => u_Vq_Pl w (i_Pl w h)) hown hK hP 7 rfl rfl 1 (by decide) (hts _ (u_Vq_Pl _ k_Pl_12)) (fun _ h9 => h9) rfl d_Pl_listChain_43 ?_
        refine lv_iload hx hb d_Pl_listChain_46 (lv_at hl 4 rfl) ?_
        obtain ⟨r_4, S_4, hc_4, h⟩ := lf_cE h
        have hFc := lx_free hD hS hA
        refine va_calli (va_runV (As := [.int y_6]) (rest := []) ⟨hx, hb, hml, hown, hts⟩ (l_Tb_nextOf l dC dI X _ hc_4) (cwV 1 hts (gwV good_Vq (u_Vq_Pl _ k_Pl_107) (u_Vq_Tb _ k_Tb_43) (u_Vq_Tb _ k_Tb_44) (u_Vq_Tb _ k_Tb_0) (wcs (u_Vq_Tb _ k_Tb_45) (fun _ h => h))) rfl rfl rfl (by decide +kernel) ⟨Nat.le_of_ble_eq_true rfl, Nat.le_of_ble_eq_true rfl⟩) (pv_ofE (X.same _) (fun U z1 z2 => X.mono _ _ U hFc (hEw _ _ hS U z1 z2)) hP hK hD (va_recv hK hP (ci := 4) (q0 := 3) rfl rfl)) rfl rfl hl.1 rfl (lv_room (Nat.le_of_ble_eq_true rfl)) d_Pl_listChain_48 ⟨by decide, by decide⟩) hS (fun q _ h => hFc q h) hFc (fun r_ u t H locs ht hvm hw hB hz1 hk1 hS => ?_)
        rw [hw]
        obtain ⟨hP, -, hD⟩ := hB
        rw [ht] at hP
        have hD := lx_dj hD hFc
        refine lv_if_eq (tgt := 138) hx hb d_Pl_listChain_51 (by decide) (fun c_5 => ?_) (fun c_5 => ?_)
        · have h := lf_t h c_5
          rw [hQ]
          have e2 : S_4 = S' := Option.some.inj h
          have hP := ly_newP e2.symm hP
          have hD := ly_newD e2.symm hD
          exact W.vret hx hb hr (fun t ht hW => ⟨⟨(), rfl, trivial, by rw [ht]; exact hP, va_K.moved hW.alike hK, hD⟩, hS.F ht⟩) hS.2.2 d_Pl_listChain_138
        · have h := lf_f h c_5
          refine lv_aload_n hx hb d_Pl_listChain_54 rfl (lv_at hl 0 rfl) ?_
          refine va_get (D := (dC, dI)) (ci := 9) (v := .ref M.o_Tb) (C := R_Pl) (T := F_Pl) (N := 17) hx hb hts (fun w h => u_Vq_Pl w (i_Pl w h)) hown hK hP 7 rfl rfl 1 (by decide) (hts _ (u_Vq_Pl _ k_Pl_12)) (fun _ h9 => h9) rfl d_Pl_listChain_55 ?_
          refine lv_iload hx hb d_Pl_listChain_58 (lv_at hl 4 rfl) ?_
          obtain ⟨r_6, S_6, hc_6, h⟩ := lf_cE h
          have hFc := lx_free hD hS hA
          refine va_calli (va_runV (As := [.int y_6]) (rest := []) ⟨hx, hb, hml, hown, hts⟩ (l_Tb_goalOf l dC dI X _ hc_6) (cwV 1 hts (gwV good_Vq (u_Vq_Pl _ k_Pl_108) (u_Vq_Tb _ k_Tb_46) (u_Vq_Tb _ k_Tb_47) (u_Vq_Tb _ k_Tb_0) (wcs (u_Vq_Tb _ k_Tb_48) (fun _ h => h))) rfl rfl rfl (by decide +kernel) ⟨Nat.le_of_ble_eq_true rfl, Nat.le_of_ble_eq_true rfl⟩) (pv_ofE (X.same _) (fun U z1 z2 => X.mono _ _ U hFc (hEw _ _ hS U z1 z2)) hP hK hD (va_recv hK hP (ci := 4) (q0 := 3) rfl rfl)) rfl rfl hl.1 rfl (lv_room (Nat.le_of_ble_eq_true rfl)) d_Pl_listChain_60 ⟨by decide, by decide⟩) hS (fun q _ h => hFc q h) hFc (fun r_ u t H locs ht hvm hw hB hz1 hk1 hS => ?_)
          rw [hw]
          obtain ⟨hP, -, hD⟩ := hB
          rw [ht] at hP
          have hD := lx_dj hD hFc
          refine lv_if_eq (tgt := 78) hx hb d_Pl_listChain_63 (by decide) (fun c_7 => ?_) (fun c_7 => ?_)
          · have h := lf_t h c_7
            refine lv_iload hx hb d_Pl_listChain_78 (lv_at hl 4 rfl) ?_
            exact hB_80 _ hr_30 y_3 y_4 y_5 y_6 y_7 y_6 S_6 _ _ _ h hP hD hS (lv_sub hl [0, 1, 2, 3, 4, 5] rfl)
          · have h := lf_f h c_7
            refine lv_aload_n hx hb d_Pl_listChain_66 rfl (lv_at hl 0 rfl) ?_
            refine va_get (D := (dC, dI)) (ci := 9) (v := .ref M.o_Tb) (C := R_Pl) (T := F_Pl) (N := 17) hx hb hts (fun w h => u_Vq_Pl w (i_Pl w h)) hown hK hP 7 rfl rfl 1 (by decide) (hts _ (u_Vq_Pl _ k_Pl_12)) (fun _ h9 => h9) rfl d_Pl_listChain_67 ?_
            refine lv_iload hx hb d_Pl_listChain_70 (lv_at hl 4 rfl) ?_
            obtain ⟨r_8, S_8, hc_8, h⟩ := lf_cE h
            have hFc := lx_free hD hS hA
            refine va_calli (va_runV (As := [.int y_6]) (rest := []) ⟨hx, hb, hml, hown, hts⟩ (l_Tb_goalOf l dC dI X _ hc_8) (cwV 1 hts (gwV good_Vq (u_Vq_Pl _ k_Pl_108) (u_Vq_Tb _ k_Tb_46) (u_Vq_Tb _ k_Tb_47) (u_Vq_Tb _ k_Tb_0) (wcs (u_Vq_Tb _ k_Tb_48) (fun _ h => h))) rfl rfl rfl (by decide +kernel) ⟨Nat.le_of_ble_eq_true rfl, Nat.le_of_ble_eq_true rfl⟩) (pv_ofE (X.same _) (fun U z1 z2 => X.mono _ _ U hFc (hEw _ _ hS U z1 z2)) hP hK hD (va_recv hK hP (ci := 4) (q0 := 3) rfl rfl)) rfl rfl hl.1 rfl (lv_room (Nat.le_of_ble_eq_true rfl)) d_Pl_listChain_72 ⟨by decide, by decide⟩) hS (fun q _ h => hFc q h) hFc (fun r_ u t H locs ht hvm hw hB hz1 hk1 hS => ?_)
            rw [hw]
            obtain ⟨hP, -, hD⟩ := hB
            rw [ht] at hP
            have hD := lx_dj hD hFc
            refine lv_goto (tgt := 80) hx hb d_Pl_listChain_75 (by decide) ?_
            exact hB_80 _ hr_30 y_3 y_4 y_5 y_6 y_7 r_8 S_8 _ _ _ h hP hD hS (lv_sub hl [0, 1, 2, 3, 4, 5] rfl)
  rw [f_Pl_listChain] at h
  refine lv_aload_n hx hb d_Pl_listChain_0 rfl (lv_at hl 0 rfl) ?_
  refine va_get (D := (dC, dI)) (ci := 9) (v := .ref M.o_Tb) (C := R_Pl) (T := F_Pl) (N := 17) hx hb hts (fun w h => u_Vq_Pl w (i_Pl w h)) hown hK hP 7 rfl rfl 1 (by decide) (hts _ (u_Vq_Pl _ k_Pl_12)) (fun _ h9 => h9) rfl d_Pl_listChain_1 ?_
  refine va_get (D := (dC, dI)) (ci := 4) (v := .int S.v_Tb_cluster) (C := R_Tb) (T := F_Tb) (N := 10) hx hb hts (fun w h => u_Vq_Tb w (i_Tb w h)) hown hK hP 3 rfl rfl 1 (by decide) (hts _ (u_Vq_Pl _ k_Pl_2)) (fun _ h9 => h9) rfl d_Pl_listChain_4 ?_
  refine lv_iconst (v := 2) hx hb d_Pl_listChain_7 (by decide) ?_
  refine lv_idiv hx hb d_Pl_listChain_8 (by decide) ?_
  refine lv_topi (fun x_1 ex_1 => ?_)
  have h := lf_lE h ex_1
  refine lv_istore_n (lv' := [(3, .int x_1), (0, .ref M.o_Pl), (1, .int p0), (2, .int p1)]) hx hb d_Pl_listChain_9 rfl hl (by decide) rfl (fun ls hl => ?_)
  refine lv_aload_n hx hb d_Pl_listChain_10 rfl (lv_at hl 1 rfl) ?_
  refine va_get (D := (dC, dI)) (ci := 9) (v := .ref M.o_Tb) (C := R_Pl) (T := F_Pl) (N := 17) hx hb hts (fun w h => u_Vq_Pl w (i_Pl w h)) hown hK hP 7 rfl rfl 1 (by decide) (hts _ (u_Vq_Pl _ k_Pl_12)) (fun _ h9 => h9) rfl d_Pl_listChain_11 ?_
  refine va_get (D := (dC, dI)) (ci := 4) (v := .int S.v_Tb_start) (C := R_Tb) (T := F_Tb) (N := 10) hx hb hts (fun w h => u_Vq_Tb w (i_Tb w h)) hown hK hP 3 rfl rfl 6 (by decide) (hts _ (u_Vq_Pl _ k_Pl_3)) (fun _ h9 => h9) rfl d_Pl_listChain_14 ?_
  refine lv_iconst (v := 2) hx hb d_Pl_listChain_17 (by decide) ?_
  refine lv_idiv hx hb d_Pl_listChain_18 (by decide) ?_
  refine lv_topi (fun x_2 ex_2 => ?_)
  have h := lf_lE h ex_2
  refine lv_istore (lv' := [(4, .int x_2), (3, .int x_1), (0, .ref M.o_Pl), (1, .int p0), (2, .int p1)]) hx hb d_Pl_listChain_19 hl (by decide) rfl (fun ls hl => ?_)
  refine lv_iload_n hx hb d_Pl_listChain_21 rfl (lv_at hl 4 rfl) ?_
  refine lv_istore (lv' := [(5, .int p1), (4, .int x_2), (3, .int x_1), (0, .ref M.o_Pl), (1, .int p0), (2, .int p1)]) hx hb d_Pl_listChain_22 hl (by decide) rfl (fun ls hl => ?_)
  refine lv_iload_n hx hb d_Pl_listChain_24 rfl (lv_at hl 4 rfl) ?_
  refine lv_istore (lv' := [(6, .int p0), (5, .int p1), (4, .int x_2), (3, .int x_1), (0, .ref M.o_Pl), (1, .int p0), (2, .int p1)]) hx hb d_Pl_listChain_25 hl (by decide) rfl (fun ls hl => ?_)
  refine lv_iconst (v := 0) hx hb d_Pl_listChain_27 (by decide) ?_
  refine lv_istore (lv' := [(7, .int 0), (6, .int p0), (5, .int p1), (4, .int x_2), (3, .int x_1), (0, .ref M.o_Pl), (1, .int p0), (2, .int p1)]) hx hb d_Pl_listChain_28 hl (by decide) rfl (fun ls hl => ?_)
  exact hB_30 K x_1 x_2 p1 p0 0 S _ _ _ h hP hD hS (lv_sub hl [5, 4, 3, 2, 1, 0] rfl)
set_option maxHeartbeats 4000000 in
set_option maxRecDepth 100000 in
theorem l_Pl_gather (l : Launch) (dC : Nat → ClassId) (dI : Nat → Nat → Nat) {K : Nat} {M : CA} {E : (Nat → Prop) → State → Prop} (X : ly_X l dC dI K M E) (sz : Nat) {Y : CT} {G : CG} {S S' : CS} {p0 : Int32} (h : f_Pl_gather K G S p0 = some S') : Met l y_Pl_gather (.code y_Pl_gather cb_Pl_gather 5 none :: V_Vq) ({ frames := 2, cells := 0, slots := 0, locals := 50 }) (va_Pc [.ref M.o_Pl, .int p0] (fun U => U.heap.size = sz ∧ at_ (dC, dI) (fun _ => True) (wV M Y G S) (tV M) U ∧ E (va_A (wV M Y G S) sz) U)) (va_Qv (fun (u : Unit) => True) (fun (u : Unit) t => at_ (dC, dI) (va_A (wV M Y G S) sz) (wV M Y G S') (tV M) t) (va_A (wV M Y G S) sz)) 0 0 (va_A (wV M Y G S) sz) := by
  refine Met.ofW (cc := cb_Pl_gather) (maxL := 5) (ret := none) (by decide) rfl ?_
  intro p e s m args below meth c s₁ B hml hv
  obtain ⟨rfl, hsz, ⟨hP, hK, hD0⟩, hE⟩ := hv
  have hx := B.exec
  have hb := B.bytes
  have hr := B.returns
  have hts0 := atoms_spec (ws := .code y_Pl_gather cb_Pl_gather 5 none :: V_Vq) B.pre
  have hts : ∀ w ∈ V_Vq, w.before ([.ref M.o_Pl, .int p0] : List Value).toArray s = true := fun w h => hts0 w (List.mem_cons_of_mem _ h)
  have hown : s.vm.findClass R_Pl = some m.cls := findClass_of_methodNamed B.named
  subst hsz
  have hD := hD0.self (sz := s.heap.size)
  generalize hAe : va_A (wV M Y G S) s.heap.size = A at hD hE ⊢
  have hA : ∀ q : Nat, s.heap.size ≤ q → A q := fun q h => by rw [← hAe]; exact Or.inr h
  have hS : va_S A s.heap s.heap [] := va_S.rf
  have hP : va_P (dC, dI) classes (wV M Y G S) s.heap := hP
  have hK : va_K (dC, dI) classes (tV M) s := hK
  have hEw : ∀ (H : Heap) (locs : List Loc), va_S A s.heap H locs → ∀ U : State, U.heap = H → s.WarmedH U.vm → E A U := fun H locs hS U hU hW => X.kept A s U H locs hE hS hU hW
  have hl := lv_entry ([.ref M.o_Pl, .int p0]) (n := 5) (Nat.le_of_ble_eq_true rfl)
  rw [lg_entry_eq]
  generalize (lg_sl ([.ref M.o_Pl, .int p0]) ++ List.replicate (5 - (lg_sl ([.ref M.o_Pl, .int p0])).length) Slot.unset).toArray = ls at hl ⊢
  have hl : lv_has ls 5 [(0, .ref M.o_Pl), (1, .int p0)] := hl
  refine qabs (fun Q hQ => ?_)
  have hB_152 : ∀ (rec_105 : Int32 → Int32 → CS → Option (CS)) (hr_105 : ∀ (y_1 : Int32) (y_4 : Int32) (S : CS) (H : Heap) (locs : List Loc) (ls : Array Slot), rec_105 y_1 y_4 S = some S' → va_P (dC, dI) classes (wV M Y G S) H → va_D A (wV M Y G S) → va_S A s.heap H locs → lv_has ls 5 [(0, .ref M.o_Pl), (1, .int y_1), (4, .int y_4)] → W p l e ({ frames := 2, cells := 0, slots := 0, locals := 50 }) s m ([.ref M.o_Pl, .int p0] : List Value).toArray below meth c H locs 0 0 Q (F0 m 105 ls [])), ∀ (y_1 : Int32) (y_4 : Int32) (S : CS) (H : Heap) (locs : List Loc) (ls : Array Slot), f_Pl_gather_152 K G rec_105 y_1 y_4 S = some S' → va_P (dC, dI) classes (wV M Y G S) H → va_D A (wV M Y G S) → va_S A s.heap H locs → lv_has ls 5 [(0, .ref M.o_Pl), (1, .int y_1), (4, .int y_4)] → W p l e ({ frames := 2, cells := 0, slots := 0, locals := 50 }) s m ([.ref M.o_Pl, .int p0] : List Value).toArray below meth c H locs 0 0 Q (F0 m 152 ls []) := by
    intro rec_105 hr_105 y_1 y_4 S H locs ls h hP hD hS hl
    rw [f_Pl_gather_152] at h
    obtain ⟨x_26, ex_26, h⟩ := lf_lX h
    refine lv_iinc (v := x_26) (lv' := [(4, .int x_26), (0, .ref M.o_Pl), (1, .int y_1)]) hx hb d_Pl_gather_152 hl (k := 2) rfl (by rw [ex_26]; rfl) (by decide) rfl (fun ls hl => ?_)
    refine lv_goto (tgt := 105) hx hb d_Pl_gather_155 (by decide) ?_
    exact hr_105 y_1 x_26 S _ _ _ h hP hD hS (lv_sub hl [1, 2, 0] rfl)
  have hB_158 : ∀ (y_1 : Int32) (S : CS) (H : Heap) (locs : List Loc) (ls : Array Slot), f_Pl_gather_158 K G y_1 S = some S' → va_P (dC, dI) classes (wV M Y G S) H → va_D A (wV M Y G S) → va_S A s.heap H locs → lv_has ls 5 [(0, .ref M.o_Pl), (1, .int y_1)] → W p l e ({ frames := 2, cells := 0, slots := 0, locals := 50 }) s m ([.ref M.o_Pl, .int p0] : List Value).toArray below meth c H locs 0 0 Q (F0 m 158 ls []) := by
    intro y_1 S H locs ls h hP hD hS hl
    rw [f_Pl_gather_158] at h
    refine lv_iload_n hx hb d_Pl_gather_158 rfl (lv_at hl 1 rfl) ?_
    refine lv_iconst (v := (-1)) hx hb d_Pl_gather_159 (by decide) ?_
    refine lv_icmp_eq (tgt := 204) hx hb d_Pl_gather_160 (by decide) (fun c_20 => ?_) (fun c_20 => ?_)
    · have h := lf_t h c_20
      rw [hQ]
      have e2 : S = S' := Option.some.inj h
      have hP := ly_newP e2.symm hP
      have hD := ly_newD e2.symm hD
      exact W.vret hx hb hr (fun t ht hW => ⟨⟨(), rfl, trivial, by rw [ht]; exact hP, va_K.moved hW.alike hK, hD⟩, hS.F ht⟩) hS.2.2 d_Pl_gather_204
    · have h := lf_f h c_20
      refine lv_aload_n hx hb d_Pl_gather_163 rfl (lv_at hl 0 rfl) ?_
      refine va_get (D := (dC, dI)) (ci := 9) (v := .ref M.o_Tr) (C := R_Pl) (T := F_Pl) (N := 17) hx hb hts (fun w h => u_Vq_Pl w (i_Pl w h)) hown hK hP 7 rfl rfl 2 (by decide) (hts _ (u_Vq_Pl _ k_Pl_13)) (fun _ h9 => h9) rfl d_Pl_gather_164 ?_
      refine lv_iload_n hx hb d_Pl_gather_167 rfl (lv_at hl 1 rfl) ?_
      obtain ⟨r_21, S_21, hc_21, h⟩ := lf_cE h
      have hFc := lx_free hD hS hA
      refine va_calli (va_runV (As := [.int y_1]) (rest := []) ⟨hx, hb, hml, hown, hts⟩ (l_Tr_isDirectory l dC dI X _ hc_21) (cwV 1 hts (gwV good_Vq (u_Vq_Pl _ k_Pl_102) (u_Vq_Tr _ k_Tr_42) (u_Vq_Tr _ k_Tr_43) (u_Vq_Tr _ k_Tr_0) (wcs (u_Vq_Tr _ k_Tr_44) (fun _ h => h))) rfl rfl rfl (by decide +kernel) ⟨Nat.le_of_ble_eq_true rfl, Nat.le_of_ble_eq_true rfl⟩) (pv_ofE (X.same _) (fun U z1 z2 => X.mono _ _ U hFc (hEw _ _ hS U z1 z2)) hP hK hD (va_recv hK hP (ci := 5) (q0 := 4) rfl rfl)) rfl rfl hl.1 rfl (lv_room (Nat.le_of_ble_eq_true rfl)) d_Pl_gather_168 ⟨by decide, by decide⟩) hS (fun q _ h => hFc q h) hFc (fun r_ u t H locs ht hvm hw hB hz1 hk1 hS => ?_)
      rw [hw]
      obtain ⟨hP, -, hD⟩ := hB
      rw [ht] at hP
      have hD := lx_dj hD hFc
      refine lv_if_ne (tgt := 204) hx hb d_Pl_gather_171 (by decide) (fun c_22 => ?_) (fun c_22 => ?_)
      · have h := lf_f h c_22
        rw [hQ]
        have e2 : S_21 = S' := Option.some.inj h
        have hP := ly_newP e2.symm hP
        have hD := ly_newD e2.symm hD
        exact W.vret hx hb hr (fun t ht hW => ⟨⟨(), rfl, trivial, by rw [ht]; exact hP, va_K.moved hW.alike hK, hD⟩, hS.F ht⟩) hS.2.2 d_Pl_gather_204
      · have h := lf_t h c_22
        refine lv_aload_n hx hb d_Pl_gather_174 rfl (lv_at hl 0 rfl) ?_
        refine lv_aload_n hx hb d_Pl_gather_175 rfl (lv_at hl 0 rfl) ?_
        refine va_get (D := (dC, dI)) (ci := 9) (v := .ref M.o_Tr) (C := R_Pl) (T := F_Pl) (N := 17) hx hb hts (fun w h => u_Vq_Pl w (i_Pl w h)) hown hK hP 7 rfl rfl 2 (by decide) (hts _ (u_Vq_Pl _ k_Pl_13)) (fun _ h9 => h9) rfl d_Pl_gather_176 ?_
        refine lv_iload_n hx hb d_Pl_gather_179 rfl (lv_at hl 1 rfl) ?_
        obtain ⟨r_23, S_23, hc_23, h⟩ := lf_cE h
        have hFc := lx_free hD hS hA
        refine va_calli (va_runV (As := [.int y_1]) (rest := [.ref M.o_Pl]) ⟨hx, hb, hml, hown, hts⟩ (l_Tr_firstOf l dC dI X _ hc_23) (cwV 1 hts (gwV good_Vq (u_Vq_Pl _ k_Pl_103) (u_Vq_Tr _ k_Tr_45) (u_Vq_Tr _ k_Tr_46) (u_Vq_Tr _ k_Tr_0) (wcs (u_Vq_Tr _ k_Tr_47) (fun _ h => h))) rfl rfl rfl (by decide +kernel) ⟨Nat.le_of_ble_eq_true rfl, Nat.le_of_ble_eq_true rfl⟩) (pv_ofE (X.same _) (fun U z1 z2 => X.mono _ _ U hFc (hEw _ _ hS U z1 z2)) hP hK hD (va_recv hK hP (ci := 5) (q0 := 4) rfl rfl)) rfl rfl hl.1 rfl (lv_room (Nat.le_of_ble_eq_true rfl)) d_Pl_gather_180 ⟨by decide, by decide⟩) hS (fun q _ h => hFc q h) hFc (fun r_ u t H locs ht hvm hw hB hz1 hk1 hS => ?_)
        rw [hw]
        obtain ⟨hP, -, hD⟩ := hB
        rw [ht] at hP
        have hD := lx_dj hD hFc
        refine lv_aload_n hx hb d_Pl_gather_183 rfl (lv_at hl 0 rfl) ?_
        refine va_get (D := (dC, dI)) (ci := 9) (v := .ref M.o_Tr) (C := R_Pl) (T := F_Pl) (N := 17) hx hb hts (fun w h => u_Vq_Pl w (i_Pl w h)) hown hK hP 7 rfl rfl 2 (by decide) (hts _ (u_Vq_Pl _ k_Pl_13)) (fun _ h9 => h9) rfl d_Pl_gather_184 ?_
        refine lv_iload_n hx hb d_Pl_gather_187 rfl (lv_at hl 1 rfl) ?_
        obtain ⟨r_24, S_24, hc_24, h⟩ := lf_cE h
        have hFc := lx_free hD hS hA
        refine va_calli (va_runV (As := [.int y_1]) (rest := [.int r_23, .ref M.o_Pl]) ⟨hx, hb, hml, hown, hts⟩ (l_Tr_sizeOf l dC dI X _ hc_24) (cwV 1 hts (gwV good_Vq (u_Vq_Pl _ k_Pl_109) (u_Vq_Tr _ k_Tr_88) (u_Vq_Tr _ k_Tr_89) (u_Vq_Tr _ k_Tr_0) (wcs (u_Vq_Tr _ k_Tr_90) (fun _ h => h))) rfl rfl rfl (by decide +kernel) ⟨Nat.le_of_ble_eq_true rfl, Nat.le_of_ble_eq_true rfl⟩) (pv_ofE (X.same _) (fun U z1 z2 => X.mono _ _ U hFc (hEw _ _ hS U z1 z2)) hP hK hD (va_recv hK hP (ci := 5) (q0 := 4) rfl rfl)) rfl rfl hl.1 rfl (lv_room (Nat.le_of_ble_eq_true rfl)) d_Pl_gather_188 ⟨by decide, by decide⟩) hS (fun q _ h => hFc q h) hFc (fun r_ u t H locs ht hvm hw hB hz1 hk1 hS => ?_)
        rw [hw]
        obtain ⟨hP, -, hD⟩ := hB
        rw [ht] at hP
        have hD := lx_dj hD hFc
        refine lv_sipush (v := 1024) hx hb d_Pl_gather_191 (by decide) ?_
        refine lv_iadd hx hb d_Pl_gather_194 ?_
        refine lv_iconst (v := 1) hx hb d_Pl_gather_195 (by decide) ?_
        refine lv_isub hx hb d_Pl_gather_196 ?_
        refine lv_sipush (v := 1024) hx hb d_Pl_gather_197 (by decide) ?_
        refine lv_idiv hx hb d_Pl_gather_200 (by decide) ?_
        obtain ⟨S_25, hc_25, h⟩ := lf_bE h
        have hFc := lx_free hD hS hA
        refine va_callv (va_runV (As := [.int r_23, .int (((r_24 + 1024) - 1) / 1024)]) (rest := []) ⟨hx, hb, hml, hown, hts⟩ (l_Pl_listChain l dC dI X _ hc_25) (cwV 2 hts (gwV good_Vq (u_Vq_Pl _ k_Pl_104) (u_Vq_Pl _ k_Pl_105) (u_Vq_Pl _ k_Pl_177) (u_Vq_Pl _ k_Pl_0) (wcs (u_Vq_Pl _ k_Pl_106) (fun _ h => h))) rfl rfl rfl (by decide +kernel) ⟨Nat.le_of_ble_eq_true rfl, Nat.le_of_ble_eq_true rfl⟩) (pv_ofE (X.same _) (fun U z1 z2 => X.mono _ _ U hFc (hEw _ _ hS U z1 z2)) hP hK hD (va_recv hK hP (ci := 9) (q0 := 7) rfl rfl)) rfl rfl hl.1 rfl (lv_room (Nat.le_of_ble_eq_true rfl)) d_Pl_gather_201 ⟨by decide, by decide⟩) hS (fun q _ h => hFc q h) hFc (fun u t H locs ht hvm hw hB hz1 hk1 hS => ?_)
        obtain ⟨hP, -, hD⟩ := hB
        rw [ht] at hP
        have hD := lx_dj hD hFc
        rw [hQ]
        have e2 : S_25 = S' := Option.some.inj h
        have hP := ly_newP e2.symm hP
        have hD := ly_newD e2.symm hD
        exact W.vret hx hb hr (fun t ht hW => ⟨⟨(), rfl, trivial, by rw [ht]; exact hP, va_K.moved hW.alike hK, hD⟩, hS.F ht⟩) hS.2.2 d_Pl_gather_204
  have hB_105 : ∀ (k : Nat), ∀ (y_1 : Int32) (y_4 : Int32) (S : CS) (H : Heap) (locs : List Loc) (ls : Array Slot), f_Pl_gather_105 K G k y_1 y_4 S = some S' → va_P (dC, dI) classes (wV M Y G S) H → va_D A (wV M Y G S) → va_S A s.heap H locs → lv_has ls 5 [(0, .ref M.o_Pl), (1, .int y_1), (4, .int y_4)] → W p l e ({ frames := 2, cells := 0, slots := 0, locals := 50 }) s m ([.ref M.o_Pl, .int p0] : List Value).toArray below meth c H locs 0 0 Q (F0 m 105 ls []) := by
    intro k
    induction k with
    | zero => intro y_1 y_4 S H locs ls h; exact lf_no h
    | succ k hr_105 =>
      intro y_1 y_4 S H locs ls h hP hD hS hl
      rw [f_Pl_gather_105] at h
      refine lv_iload_n hx hb d_Pl_gather_105 rfl (lv_at hl 1 rfl) ?_
      refine lv_iconst (v := (-1)) hx hb d_Pl_gather_106 (by decide) ?_
      refine lv_icmp_ne (tgt := 158) hx hb d_Pl_gather_107 (by decide) (fun c_14 => ?_) (fun c_14 => ?_)
      · have h := lf_f h c_14
        exact hB_158 y_1 S _ _ _ h hP hD hS (lv_sub hl [0, 1] rfl)
      · have h := lf_t h c_14
        refine lv_iload hx hb d_Pl_gather_110 (lv_at hl 2 rfl) ?_
        refine lv_aload_n hx hb d_Pl_gather_112 rfl (lv_at hl 0 rfl) ?_
        refine va_get (D := (dC, dI)) (ci := 9) (v := .ref M.o_Tr) (C := R_Pl) (T := F_Pl) (N := 17) hx hb hts (fun w h => u_Vq_Pl w (i_Pl w h)) hown hK hP 7 rfl rfl 2 (by decide) (hts _ (u_Vq_Pl _ k_Pl_13)) (fun _ h9 => h9) rfl d_Pl_gather_113 ?_
        refine va_get (D := (dC, dI)) (ci := 5) (v := .int S.v_Tr_count) (C := R_Tr) (T := F_Tr) (N := 18) hx hb hts (fun w h => u_Vq_Tr w (i_Tr w h)) hown hK hP 4 rfl rfl 0 (by decide) (hts _ (u_Vq_Pl _ k_Pl_5)) (fun _ h9 => h9) rfl d_Pl_gather_116 ?_
        refine lv_icmp_ge (tgt := 158) hx hb d_Pl_gather_119 (by decide) (fun c_15 => ?_) (fun c_15 => ?_)
        · have h := lf_t h c_15
          exact hB_158 y_1 S _ _ _ h hP hD hS (lv_sub hl [0, 1] rfl)
        · have h := lf_f h c_15
          refine lv_aload_n hx hb d_Pl_gather_122 rfl (lv_at hl 0 rfl) ?_
          refine va_get (D := (dC, dI)) (ci := 9) (v := .ref M.o_Tr) (C := R_Pl) (T := F_Pl) (N := 17) hx hb hts (fun w h => u_Vq_Pl w (i_Pl w h)) hown hK hP 7 rfl rfl 2 (by decide) (hts _ (u_Vq_Pl _ k_Pl_13)) (fun _ h9 => h9) rfl d_Pl_gather_123 ?_
          refine lv_iload hx hb d_Pl_gather_126 (lv_at hl 2 rfl) ?_
          obtain ⟨r_16, S_16, hc_16, h⟩ := lf_cE h
          have hFc := lx_free hD hS hA
          refine va_calli (va_runV (As := [.int y_4]) (rest := []) ⟨hx, hb, hml, hown, hts⟩ (l_Tr_isDirectory l dC dI X _ hc_16) (cwV 1 hts (gwV good_Vq (u_Vq_Pl _ k_Pl_102) (u_Vq_Tr _ k_Tr_42) (u_Vq_Tr _ k_Tr_43) (u_Vq_Tr _ k_Tr_0) (wcs (u_Vq_Tr _ k_Tr_44) (fun _ h => h))) rfl rfl rfl (by decide +kernel) ⟨Nat.le_of_ble_eq_true rfl, Nat.le_of_ble_eq_true rfl⟩) (pv_ofE (X.same _) (fun U z1 z2 => X.mono _ _ U hFc (hEw _ _ hS U z1 z2)) hP hK hD (va_recv hK hP (ci := 5) (q0 := 4) rfl rfl)) rfl rfl hl.1 rfl (lv_room (Nat.le_of_ble_eq_true rfl)) d_Pl_gather_128 ⟨by decide, by decide⟩) hS (fun q _ h => hFc q h) hFc (fun r_ u t H locs ht hvm hw hB hz1 hk1 hS => ?_)
          rw [hw]
          obtain ⟨hP, -, hD⟩ := hB
          rw [ht] at hP
          have hD := lx_dj hD hFc
          refine lv_if_eq (tgt := 152) hx hb d_Pl_gather_131 (by decide) (fun c_17 => ?_) (fun c_17 => ?_)
          · have h := lf_t h c_17
            exact hB_152 _ hr_105 y_1 y_4 S_16 _ _ _ h hP hD hS (lv_sub hl [0, 1, 2] rfl)
          · have h := lf_f h c_17
            refine lv_aload_n hx hb d_Pl_gather_134 rfl (lv_at hl 0 rfl) ?_
            refine lv_aload_n hx hb d_Pl_gather_135 rfl (lv_at hl 0 rfl) ?_
            refine va_get (D := (dC, dI)) (ci := 9) (v := .ref M.o_Tr) (C := R_Pl) (T := F_Pl) (N := 17) hx hb hts (fun w h => u_Vq_Pl w (i_Pl w h)) hown hK hP 7 rfl rfl 2 (by decide) (hts _ (u_Vq_Pl _ k_Pl_13)) (fun _ h9 => h9) rfl d_Pl_gather_136 ?_
            refine lv_iload hx hb d_Pl_gather_139 (lv_at hl 2 rfl) ?_
            obtain ⟨r_18, S_18, hc_18, h⟩ := lf_cE h
            have hFc := lx_free hD hS hA
            refine va_calli (va_runV (As := [.int y_4]) (rest := [.ref M.o_Pl]) ⟨hx, hb, hml, hown, hts⟩ (l_Tr_firstOf l dC dI X _ hc_18) (cwV 1 hts (gwV good_Vq (u_Vq_Pl _ k_Pl_103) (u_Vq_Tr _ k_Tr_45) (u_Vq_Tr _ k_Tr_46) (u_Vq_Tr _ k_Tr_0) (wcs (u_Vq_Tr _ k_Tr_47) (fun _ h => h))) rfl rfl rfl (by decide +kernel) ⟨Nat.le_of_ble_eq_true rfl, Nat.le_of_ble_eq_true rfl⟩) (pv_ofE (X.same _) (fun U z1 z2 => X.mono _ _ U hFc (hEw _ _ hS U z1 z2)) hP hK hD (va_recv hK hP (ci := 5) (q0 := 4) rfl rfl)) rfl rfl hl.1 rfl (lv_room (Nat.le_of_ble_eq_true rfl)) d_Pl_gather_141 ⟨by decide, by decide⟩) hS (fun q _ h => hFc q h) hFc (fun r_ u t H locs ht hvm hw hB hz1 hk1 hS => ?_)
            rw [hw]
            obtain ⟨hP, -, hD⟩ := hB
            rw [ht] at hP
            have hD := lx_dj hD hFc
            refine lv_aload_n hx hb d_Pl_gather_144 rfl (lv_at hl 0 rfl) ?_
            refine va_get (D := (dC, dI)) (ci := 9) (v := .ref M.a_Pl_list) (C := R_Pl) (T := F_Pl) (N := 17) hx hb hts (fun w h => u_Vq_Pl w (i_Pl w h)) hown hK hP 7 rfl rfl 9 (by decide) (hts _ (u_Vq_Pl _ k_Pl_20)) (fun _ h9 => h9) rfl d_Pl_gather_145 ?_
            refine va_alen (v := nI (G.n / 2 + 4)) hx hb hK hP 43 2 rfl rfl rfl d_Pl_gather_148 ?_
            obtain ⟨S_19, hc_19, h⟩ := lf_bE h
            have hFc := lx_free hD hS hA
            refine va_callv (va_runV (As := [.int r_18, .int (nI (G.n / 2 + 4))]) (rest := []) ⟨hx, hb, hml, hown, hts⟩ (l_Pl_listChain l dC dI X _ hc_19) (cwV 2 hts (gwV good_Vq (u_Vq_Pl _ k_Pl_104) (u_Vq_Pl _ k_Pl_105) (u_Vq_Pl _ k_Pl_177) (u_Vq_Pl _ k_Pl_0) (wcs (u_Vq_Pl _ k_Pl_106) (fun _ h => h))) rfl rfl rfl (by decide +kernel) ⟨Nat.le_of_ble_eq_true rfl, Nat.le_of_ble_eq_true rfl⟩) (pv_ofE (X.same _) (fun U z1 z2 => X.mono _ _ U hFc (hEw _ _ hS U z1 z2)) hP hK hD (va_recv hK hP (ci := 9) (q0 := 7) rfl rfl)) rfl rfl hl.1 rfl (lv_room (Nat.le_of_ble_eq_true rfl)) d_Pl_gather_149 ⟨by decide, by decide⟩) hS (fun q _ h => hFc q h) hFc (fun u t H locs ht hvm hw hB hz1 hk1 hS => ?_)
            obtain ⟨hP, -, hD⟩ := hB
            rw [ht] at hP
            have hD := lx_dj hD hFc
            exact hB_152 _ hr_105 y_1 y_4 S_19 _ _ _ h hP hD hS (lv_sub hl [0, 1, 2] rfl)
  have hB_102 : ∀ (y_1 : Int32) (S : CS) (H : Heap) (locs : List Loc) (ls : Array Slot), f_Pl_gather_102 K G y_1 S = some S' → va_P (dC, dI) classes (wV M Y G S) H → va_D A (wV M Y G S) → va_S A s.heap H locs → lv_has ls 5 [(0, .ref M.o_Pl), (1, .int y_1)] → W p l e ({ frames := 2, cells := 0, slots := 0, locals := 50 }) s m ([.ref M.o_Pl, .int p0] : List Value).toArray below meth c H locs 0 0 Q (F0 m 102 ls []) := by
    intro y_1 S H locs ls h hP hD hS hl
    rw [f_Pl_gather_102] at h
    refine lv_iconst (v := 0) hx hb d_Pl_gather_102 (by decide) ?_
    refine lv_istore (lv' := [(4, .int 0), (0, .ref M.o_Pl), (1, .int y_1)]) hx hb d_Pl_gather_103 hl (by decide) rfl (fun ls hl => ?_)
    exact hB_105 K y_1 0 S _ _ _ h hP hD hS (lv_sub hl [1, 2, 0] rfl)
  have hB_71 : ∀ (k : Nat), ∀ (y_1 : Int32) (y_4 : Int32) (S : CS) (H : Heap) (locs : List Loc) (ls : Array Slot), f_Pl_gather_71 K G k y_1 y_4 S = some S' → va_P (dC, dI) classes (wV M Y G S) H → va_D A (wV M Y G S) → va_S A s.heap H locs → lv_has ls 5 [(0, .ref M.o_Pl), (1, .int y_1), (4, .int y_4)] → W p l e ({ frames := 2, cells := 0, slots := 0, locals := 50 }) s m ([.ref M.o_Pl, .int p0] : List Value).toArray below meth c H locs 0 0 Q (F0 m 71 ls []) := by
    intro k
    induction k with
    | zero => intro y_1 y_4 S H locs ls h; exact lf_no h
    | succ k hr_71 =>
      intro y_1 y_4 S H locs ls h hP hD hS hl
      rw [f_Pl_gather_71] at h
      refine lv_iload_n hx hb d_Pl_gather_71 rfl (lv_at hl 1 rfl) ?_
      refine lv_iconst (v := (-1)) hx hb d_Pl_gather_72 (by decide) ?_
      refine lv_icmp_ne (tgt := 102) hx hb d_Pl_gather_73 (by decide) (fun c_10 => ?_) (fun c_10 => ?_)
      · have h := lf_f h c_10
        exact hB_102 y_1 S _ _ _ h hP hD hS (lv_sub hl [0, 1] rfl)
      · have h := lf_t h c_10
        refine lv_iload hx hb d_Pl_gather_76 (lv_at hl 2 rfl) ?_
        refine lv_aload_n hx hb d_Pl_gather_78 rfl (lv_at hl 0 rfl) ?_
        refine va_get (D := (dC, dI)) (ci := 9) (v := .ref M.o_Tb) (C := R_Pl) (T := F_Pl) (N := 17) hx hb hts (fun w h => u_Vq_Pl w (i_Pl w h)) hown hK hP 7 rfl rfl 1 (by decide) (hts _ (u_Vq_Pl _ k_Pl_12)) (fun _ h9 => h9) rfl d_Pl_gather_79 ?_
        refine va_get (D := (dC, dI)) (ci := 4) (v := .int S.v_Tb_start) (C := R_Tb) (T := F_Tb) (N := 10) hx hb hts (fun w h => u_Vq_Tb w (i_Tb w h)) hown hK hP 3 rfl rfl 6 (by decide) (hts _ (u_Vq_Pl _ k_Pl_3)) (fun _ h9 => h9) rfl d_Pl_gather_82 ?_
        refine lv_iconst (v := 2) hx hb d_Pl_gather_85 (by decide) ?_
        refine lv_idiv hx hb d_Pl_gather_86 (by decide) ?_
        refine lv_icmp_ge (tgt := 102) hx hb d_Pl_gather_87 (by decide) (fun c_11 => ?_) (fun c_11 => ?_)
        · have h := lf_t h c_11
          exact hB_102 y_1 S _ _ _ h hP hD hS (lv_sub hl [0, 1] rfl)
        · have h := lf_f h c_11
          refine lv_aload_n hx hb d_Pl_gather_90 rfl (lv_at hl 0 rfl) ?_
          refine lv_iload hx hb d_Pl_gather_91 (lv_at hl 2 rfl) ?_
          obtain ⟨S_12, hc_12, h⟩ := lf_bE h
          have hFc := lx_free hD hS hA
          refine va_callv (va_runV (As := [.int y_4]) (rest := []) ⟨hx, hb, hml, hown, hts⟩ (l_Pl_addToList l dC dI X _ hc_12) (cwV 1 hts (gwV good_Vq (u_Vq_Pl _ k_Pl_99) (u_Vq_Pl _ k_Pl_100) (u_Vq_Pl _ k_Pl_178) (u_Vq_Pl _ k_Pl_0) (wcs (u_Vq_Pl _ k_Pl_101) (fun _ h => h))) rfl rfl rfl (by decide +kernel) ⟨Nat.le_of_ble_eq_true rfl, Nat.le_of_ble_eq_true rfl⟩) (pv_ofE (X.same _) (fun U z1 z2 => X.mono _ _ U hFc (hEw _ _ hS U z1 z2)) hP hK hD (va_recv hK hP (ci := 9) (q0 := 7) rfl rfl)) rfl rfl hl.1 rfl (lv_room (Nat.le_of_ble_eq_true rfl)) d_Pl_gather_93 ⟨by decide, by decide⟩) hS (fun q _ h => hFc q h) hFc (fun u t H locs ht hvm hw hB hz1 hk1 hS => ?_)
          obtain ⟨hP, -, hD⟩ := hB
          rw [ht] at hP
          have hD := lx_dj hD hFc
          obtain ⟨x_13, ex_13, h⟩ := lf_lX h
          refine lv_iinc (v := x_13) (lv' := [(4, .int x_13), (0, .ref M.o_Pl), (1, .int y_1)]) hx hb d_Pl_gather_96 hl (k := 2) rfl (by rw [ex_13]; rfl) (by decide) rfl (fun ls hl => ?_)
          refine lv_goto (tgt := 71) hx hb d_Pl_gather_99 (by decide) ?_
          exact hr_71 y_1 x_13 S_12 _ _ _ h hP hD hS (lv_sub hl [1, 2, 0] rfl)
  have hB_44 : ∀ (k : Nat), ∀ (y_1 : Int32) (y_2 : Int32) (y_3 : Int32) (y_4 : Int32) (S : CS) (H : Heap) (locs : List Loc) (ls : Array Slot), f_Pl_gather_44 K G k y_1 y_2 y_3 y_4 S = some S' → va_P (dC, dI) classes (wV M Y G S) H → va_D A (wV M Y G S) → va_S A s.heap H locs → lv_has ls 5 [(0, .ref M.o_Pl), (1, .int y_1), (2, .int y_2), (3, .int y_3), (4, .int y_4)] → W p l e ({ frames := 2, cells := 0, slots := 0, locals := 50 }) s m ([.ref M.o_Pl, .int p0] : List Value).toArray below meth c H locs 0 0 Q (F0 m 44 ls []) := by
    intro k
    induction k with
    | zero => intro y_1 y_2 y_3 y_4 S H locs ls h; exact lf_no h
    | succ k hr_44 =>
      intro y_1 y_2 y_3 y_4 S H locs ls h hP hD hS hl
      rw [f_Pl_gather_44] at h
      refine lv_iload hx hb d_Pl_gather_44 (lv_at hl 4 rfl) ?_
      refine lv_iload_n hx hb d_Pl_gather_46 rfl (lv_at hl 2 rfl) ?_
      refine lv_icmp_ge (tgt := 68) hx hb d_Pl_gather_47 (by decide) (fun c_6 => ?_) (fun c_6 => ?_)
      · have h := lf_t h c_6
        refine lv_iconst (v := 3) hx hb d_Pl_gather_68 (by decide) ?_
        refine lv_istore (lv' := [(4, .int 3), (0, .ref M.o_Pl), (1, .int y_1), (2, .int y_2), (3, .int y_3)]) hx hb d_Pl_gather_69 hl (by decide) rfl (fun ls hl => ?_)
        exact hB_71 K y_1 3 S _ _ _ h hP hD hS (lv_sub hl [1, 2, 0] rfl)
      · have h := lf_f h c_6
        refine lv_aload_n hx hb d_Pl_gather_50 rfl (lv_at hl 0 rfl) ?_
        refine lv_aload_n hx hb d_Pl_gather_51 rfl (lv_at hl 0 rfl) ?_
        refine lv_iload_n hx hb d_Pl_gather_52 rfl (lv_at hl 3 rfl) ?_
        refine lv_iload hx hb d_Pl_gather_53 (lv_at hl 4 rfl) ?_
        refine lv_iadd hx hb d_Pl_gather_55 ?_
        obtain ⟨r_7, S_7, hc_7, h⟩ := lf_cE h
        have hFc := lx_free hD hS hA
        refine va_calli (va_runV (As := [.int (y_3 + y_4)]) (rest := [.ref M.o_Pl]) ⟨hx, hb, hml, hown, hts⟩ (l_Pl_room l dC dI X _ hc_7) (cwV 1 hts (gwV good_Vq (u_Vq_Pl _ k_Pl_95) (u_Vq_Pl _ k_Pl_96) (u_Vq_Pl _ k_Pl_97) (u_Vq_Pl _ k_Pl_0) (wcs (u_Vq_Pl _ k_Pl_98) (fun _ h => h))) rfl rfl rfl (by decide +kernel) ⟨Nat.le_of_ble_eq_true rfl, Nat.le_of_ble_eq_true rfl⟩) (pv_ofE (X.same _) (fun U z1 z2 => X.mono _ _ U hFc (hEw _ _ hS U z1 z2)) hP hK hD (va_recv hK hP (ci := 9) (q0 := 7) rfl rfl)) rfl rfl hl.1 rfl (lv_room (Nat.le_of_ble_eq_true rfl)) d_Pl_gather_56 ⟨by decide, by decide⟩) hS (fun q _ h => hFc q h) hFc (fun r_ u t H locs ht hvm hw hB hz1 hk1 hS => ?_)
        rw [hw]
        obtain ⟨hP, -, hD⟩ := hB
        rw [ht] at hP
        have hD := lx_dj hD hFc
        obtain ⟨S_8, hc_8, h⟩ := lf_bE h
        have hFc := lx_free hD hS hA
        refine va_callv (va_runV (As := [.int r_7]) (rest := []) ⟨hx, hb, hml, hown, hts⟩ (l_Pl_addToList l dC dI X _ hc_8) (cwV 1 hts (gwV good_Vq (u_Vq_Pl _ k_Pl_99) (u_Vq_Pl _ k_Pl_100) (u_Vq_Pl _ k_Pl_178) (u_Vq_Pl _ k_Pl_0) (wcs (u_Vq_Pl _ k_Pl_101) (fun _ h => h))) rfl rfl rfl (by decide +kernel) ⟨Nat.le_of_ble_eq_true rfl, Nat.le_of_ble_eq_true rfl⟩) (pv_ofE (X.same _) (fun U z1 z2 => X.mono _ _ U hFc (hEw _ _ hS U z1 z2)) hP hK hD (va_recv hK hP (ci := 9) (q0 := 7) rfl rfl)) rfl rfl hl.1 rfl (lv_room (Nat.le_of_ble_eq_true rfl)) d_Pl_gather_59 ⟨by decide, by decide⟩) hS (fun q _ h => hFc q h) hFc (fun u t H locs ht hvm hw hB hz1 hk1 hS => ?_)
        obtain ⟨hP, -, hD⟩ := hB
        rw [ht] at hP
        have hD := lx_dj hD hFc
        obtain ⟨x_9, ex_9, h⟩ := lf_lX h
        refine lv_iinc (v := x_9) (lv' := [(4, .int x_9), (0, .ref M.o_Pl), (1, .int y_1), (2, .int y_2), (3, .int y_3)]) hx hb d_Pl_gather_62 hl (k := 4) rfl (by rw [ex_9]; rfl) (by decide) rfl (fun ls hl => ?_)
        refine lv_goto (tgt := 44) hx hb d_Pl_gather_65 (by decide) ?_
        exact hr_44 y_1 y_2 y_3 x_9 S_8 _ _ _ h hP hD hS (lv_sub hl [1, 2, 3, 4, 0] rfl)
  have hB_40 : ∀ (y_1 : Int32) (y_2 : Int32) (z_0 : Int32) (S : CS) (H : Heap) (locs : List Loc) (ls : Array Slot), f_Pl_gather_40 K G y_1 y_2 z_0 S = some S' → va_P (dC, dI) classes (wV M Y G S) H → va_D A (wV M Y G S) → va_S A s.heap H locs → lv_has ls 5 [(0, .ref M.o_Pl), (1, .int y_1), (2, .int y_2)] → W p l e ({ frames := 2, cells := 0, slots := 0, locals := 50 }) s m ([.ref M.o_Pl, .int p0] : List Value).toArray below meth c H locs 0 0 Q (F0 m 40 ls [.int z_0]) := by
    intro y_1 y_2 z_0 S H locs ls h hP hD hS hl
    rw [f_Pl_gather_40] at h
    refine lv_istore_n (lv' := [(3, .int z_0), (0, .ref M.o_Pl), (1, .int y_1), (2, .int y_2)]) hx hb d_Pl_gather_40 rfl hl (by decide) rfl (fun ls hl => ?_)
    refine lv_iconst (v := 0) hx hb d_Pl_gather_41 (by decide) ?_
    refine lv_istore (lv' := [(4, .int 0), (3, .int z_0), (0, .ref M.o_Pl), (1, .int y_1), (2, .int y_2)]) hx hb d_Pl_gather_42 hl (by decide) rfl (fun ls hl => ?_)
    exact hB_44 K y_1 y_2 z_0 0 S _ _ _ h hP hD hS (lv_sub hl [2, 3, 4, 1, 0] rfl)
  have hB_22 : ∀ (y_1 : Int32) (z_0 : Int32) (S : CS) (H : Heap) (locs : List Loc) (ls : Array Slot), f_Pl_gather_22 K G y_1 z_0 S = some S' → va_P (dC, dI) classes (wV M Y G S) H → va_D A (wV M Y G S) → va_S A s.heap H locs → lv_has ls 5 [(0, .ref M.o_Pl), (1, .int y_1)] → W p l e ({ frames := 2, cells := 0, slots := 0, locals := 50 }) s m ([.ref M.o_Pl, .int p0] : List Value).toArray below meth c H locs 0 0 Q (F0 m 22 ls [.int z_0]) := by
    intro y_1 z_0 S H locs ls h hP hD hS hl
    rw [f_Pl_gather_22] at h
    refine lv_istore_n (lv' := [(2, .int z_0), (0, .ref M.o_Pl), (1, .int y_1)]) hx hb d_Pl_gather_22 rfl hl (by decide) rfl (fun ls hl => ?_)
    refine lv_iload_n hx hb d_Pl_gather_23 rfl (lv_at hl 2 rfl) ?_
    refine lv_iconst (v := (-1)) hx hb d_Pl_gather_24 (by decide) ?_
    refine lv_icmp_ne (tgt := 32) hx hb d_Pl_gather_25 (by decide) (fun c_4 => ?_) (fun c_4 => ?_)
    · have h := lf_f h c_4
      refine lv_aload_n hx hb d_Pl_gather_32 rfl (lv_at hl 1 rfl) ?_
      refine va_get (D := (dC, dI)) (ci := 9) (v := .ref M.o_Tr) (C := R_Pl) (T := F_Pl) (N := 17) hx hb hts (fun w h => u_Vq_Pl w (i_Pl w h)) hown hK hP 7 rfl rfl 2 (by decide) (hts _ (u_Vq_Pl _ k_Pl_13)) (fun _ h9 => h9) rfl d_Pl_gather_33 ?_
      refine lv_iload_n hx hb d_Pl_gather_36 rfl (lv_at hl 2 rfl) ?_
      obtain ⟨r_5, S_5, hc_5, h⟩ := lf_cE h
      have hFc := lx_free hD hS hA
      refine va_calli (va_runV (As := [.int y_1]) (rest := []) ⟨hx, hb, hml, hown, hts⟩ (l_Tr_builtOf l dC dI X _ hc_5) (cwV 1 hts (gwV good_Vq (u_Vq_Pl _ k_Pl_94) (u_Vq_Tr _ k_Tr_85) (u_Vq_Tr _ k_Tr_86) (u_Vq_Tr _ k_Tr_0) (wcs (u_Vq_Tr _ k_Tr_87) (fun _ h => h))) rfl rfl rfl (by decide +kernel) ⟨Nat.le_of_ble_eq_true rfl, Nat.le_of_ble_eq_true rfl⟩) (pv_ofE (X.same _) (fun U z1 z2 => X.mono _ _ U hFc (hEw _ _ hS U z1 z2)) hP hK hD (va_recv hK hP (ci := 5) (q0 := 4) rfl rfl)) rfl rfl hl.1 rfl (lv_room (Nat.le_of_ble_eq_true rfl)) d_Pl_gather_37 ⟨by decide, by decide⟩) hS (fun q _ h => hFc q h) hFc (fun r_ u t H locs ht hvm hw hB hz1 hk1 hS => ?_)
      rw [hw]
      obtain ⟨hP, -, hD⟩ := hB
      rw [ht] at hP
      have hD := lx_dj hD hFc
      exact hB_40 y_1 z_0 r_5 S_5 _ _ _ h hP hD hS (lv_sub hl [1, 2, 0] rfl)
    · have h := lf_t h c_4
      refine lv_iconst (v := 0) hx hb d_Pl_gather_28 (by decide) ?_
      refine lv_goto (tgt := 40) hx hb d_Pl_gather_29 (by decide) ?_
      exact hB_40 y_1 z_0 0 S _ _ _ h hP hD hS (lv_sub hl [1, 2, 0] rfl)
  rw [f_Pl_gather] at h
  refine lv_aload_n hx hb d_Pl_gather_0 rfl (lv_at hl 0 rfl) ?_
  refine lv_iconst (v := 0) hx hb d_Pl_gather_1 (by decide) ?_
  refine va_put (D := (dC, dI)) (ci := 9) (v := .int 0) (ty := .int) (C := R_Pl) (T := F_Pl) (N := 17) hx hb hts (fun w h => u_Vq_Pl w (i_Pl w h)) t_Pl t_Pl_ok n_Pl hown hK hP hD hS 7 rfl rfl 10 (by decide) (hts _ (u_Vq_Pl _ k_Pl_21)) (fun _ h9 => h9) rfl (by decide +kernel) rfl rfl (Nat.le_of_ble_eq_true rfl) d_Pl_gather_2 (fun H locs hP hD hS => ?_)
  obtain ⟨S_1, eS_1, h⟩ := lf_lX h
  have hP := ly_newP eS_1 hP
  have hD := ly_newD eS_1 hD
  refine lv_iload_n hx hb d_Pl_gather_5 rfl (lv_at hl 1 rfl) ?_
  refine lv_iconst (v := (-1)) hx hb d_Pl_gather_6 (by decide) ?_
  refine lv_icmp_ne (tgt := 14) hx hb d_Pl_gather_7 (by decide) (fun c_2 => ?_) (fun c_2 => ?_)
  · have h := lf_f h c_2
    refine lv_aload_n hx hb d_Pl_gather_14 rfl (lv_at hl 0 rfl) ?_
    refine va_get (D := (dC, dI)) (ci := 9) (v := .ref M.o_Tr) (C := R_Pl) (T := F_Pl) (N := 17) hx hb hts (fun w h => u_Vq_Pl w (i_Pl w h)) hown hK hP 7 rfl rfl 2 (by decide) (hts _ (u_Vq_Pl _ k_Pl_13)) (fun _ h9 => h9) rfl d_Pl_gather_15 ?_
    refine lv_iload_n hx hb d_Pl_gather_18 rfl (lv_at hl 1 rfl) ?_
    obtain ⟨r_3, S_3, hc_3, h⟩ := lf_cE h
    have hFc := lx_free hD hS hA
    refine va_calli (va_runV (As := [.int p0]) (rest := []) ⟨hx, hb, hml, hown, hts⟩ (l_Tr_builtBlocksOf l dC dI X _ hc_3) (cwV 1 hts (gwV good_Vq (u_Vq_Pl _ k_Pl_93) (u_Vq_Tr _ k_Tr_82) (u_Vq_Tr _ k_Tr_83) (u_Vq_Tr _ k_Tr_0) (wcs (u_Vq_Tr _ k_Tr_84) (fun _ h => h))) rfl rfl rfl (by decide +kernel) ⟨Nat.le_of_ble_eq_true rfl, Nat.le_of_ble_eq_true rfl⟩) (pv_ofE (X.same _) (fun U z1 z2 => X.mono _ _ U hFc (hEw _ _ hS U z1 z2)) hP hK hD (va_recv hK hP (ci := 5) (q0 := 4) rfl rfl)) rfl rfl hl.1 rfl (lv_room (Nat.le_of_ble_eq_true rfl)) d_Pl_gather_19 ⟨by decide, by decide⟩) hS (fun q _ h => hFc q h) hFc (fun r_ u t H locs ht hvm hw hB hz1 hk1 hS => ?_)
    rw [hw]
    obtain ⟨hP, -, hD⟩ := hB
    rw [ht] at hP
    have hD := lx_dj hD hFc
    exact hB_22 p0 r_3 S_3 _ _ _ h hP hD hS (lv_sub hl [0, 1] rfl)
  · have h := lf_t h c_2
    refine lv_iconst (v := 3) hx hb d_Pl_gather_10 (by decide) ?_
    refine lv_goto (tgt := 22) hx hb d_Pl_gather_11 (by decide) ?_
    exact hB_22 p0 3 S_1 _ _ _ h hP hD hS (lv_sub hl [0, 1] rfl)
set_option maxHeartbeats 4000000 in
set_option maxRecDepth 100000 in
theorem l_Pl_indirects (l : Launch) (dC : Nat → ClassId) (dI : Nat → Nat → Nat) {K : Nat} (sz : Nat) {p0 : Int32} {r : Int32} (h : f_Pl_indirects K p0 = some r) : Met l y_Pl_indirects (.code y_Pl_indirects b_Pl_indirects 2 (some .int) :: V_Vq) ({ frames := 0, cells := 0, slots := 0, locals := 0 }) (va_Pc [.int p0] (fun U => U.heap.size = sz ∧ at_ (dC, dI) (fun _ => True) [] [] U)) (va_Qi (fun (r_ : Int32) (u : Unit) => r_ = r) (fun (u : Unit) t => at_ (dC, dI) (va_A [] sz) [] [] t) (va_A [] sz)) 0 0 (va_A [] sz) := by
  refine Met.ofW (cc := b_Pl_indirects) (maxL := 2) (ret := (some .int)) (by decide) rfl ?_
  intro p e s m args below meth c s₁ B hml hv
  obtain ⟨rfl, hsz, hP, hK, hD0⟩ := hv
  have hx := B.exec
  have hb := B.bytes
  have hr := B.returns
  have hts0 := atoms_spec (ws := .code y_Pl_indirects b_Pl_indirects 2 (some .int) :: V_Vq) B.pre
  have hts : ∀ w ∈ V_Vq, w.before ([.int p0] : List Value).toArray s = true := fun w h => hts0 w (List.mem_cons_of_mem _ h)
  have hown : s.vm.findClass R_Pl = some m.cls := findClass_of_methodNamed B.named
  subst hsz
  have hD := hD0.self (sz := s.heap.size)
  generalize hAe : va_A [] s.heap.size = A at hD ⊢
  have hA : ∀ q : Nat, s.heap.size ≤ q → A q := fun q h => by rw [← hAe]; exact Or.inr h
  have hS : va_S A s.heap s.heap [] := va_S.rf
  have hP : va_P (dC, dI) classes [] s.heap := hP
  have hK : va_K (dC, dI) classes [] s := hK
  have hl := lv_entry ([.int p0]) (n := 2) (Nat.le_of_ble_eq_true rfl)
  rw [lg_entry_eq]
  generalize (lg_sl ([.int p0]) ++ List.replicate (2 - (lg_sl ([.int p0])).length) Slot.unset).toArray = ls at hl ⊢
  have hl : lv_has ls 2 [(0, .int p0)] := hl
  refine qabs (fun Q hQ => ?_)
  rw [f_Pl_indirects] at h
  refine lv_iload_n hx hb d_Pl_indirects_0 rfl (lv_at hl 0 rfl) ?_
  refine lv_bipush (v := 12) hx hb d_Pl_indirects_1 (by decide) ?_
  refine lv_icmp_gt (tgt := 8) hx hb d_Pl_indirects_3 (by decide) (fun c_1 => ?_) (fun c_1 => ?_)
  · have h := lf_t h c_1
    refine lv_iload_n hx hb d_Pl_indirects_8 rfl (lv_at hl 0 rfl) ?_
    refine lv_bipush (v := 12) hx hb d_Pl_indirects_9 (by decide) ?_
    refine lv_isub hx hb d_Pl_indirects_11 ?_
    refine lv_sipush (v := 256) hx hb d_Pl_indirects_12 (by decide) ?_
    refine lv_isub hx hb d_Pl_indirects_15 ?_
    refine lv_topi (fun x_2 ex_2 => ?_)
    have h := lf_lE h ex_2
    refine lv_istore_n (lv' := [(1, .int x_2), (0, .int p0)]) hx hb d_Pl_indirects_16 rfl hl (by decide) rfl (fun ls hl => ?_)
    refine lv_iload_n hx hb d_Pl_indirects_17 rfl (lv_at hl 0 rfl) ?_
    refine lv_if_gt (tgt := 25) hx hb d_Pl_indirects_18 (by decide) (fun c_3 => ?_) (fun c_3 => ?_)
    · have h := lf_t h c_3
      refine lv_iconst (v := 2) hx hb d_Pl_indirects_25 (by decide) ?_
      refine lv_iload_n hx hb d_Pl_indirects_26 rfl (lv_at hl 0 rfl) ?_
      refine lv_sipush (v := 256) hx hb d_Pl_indirects_27 (by decide) ?_
      refine lv_iadd hx hb d_Pl_indirects_30 ?_
      refine lv_iconst (v := 1) hx hb d_Pl_indirects_31 (by decide) ?_
      refine lv_isub hx hb d_Pl_indirects_32 ?_
      refine lv_sipush (v := 256) hx hb d_Pl_indirects_33 (by decide) ?_
      refine lv_idiv hx hb d_Pl_indirects_36 (by decide) ?_
      refine lv_iadd hx hb d_Pl_indirects_37 ?_
      rw [hQ]
      have e1 : (2 + (((x_2 + 256) - 1) / 256)) = r := Option.some.inj h
      exact W.iret (v := (2 + (((x_2 + 256) - 1) / 256))) hx hb hr (fun t ht hW => ⟨⟨(2 + (((x_2 + 256) - 1) / 256)), (), rfl, e1, by rw [ht]; exact hP, va_K.moved hW.alike hK, hD⟩, hS.F ht⟩) hS.2.2 d_Pl_indirects_38
    · have h := lf_f h c_3
      refine lv_iconst (v := 1) hx hb d_Pl_indirects_21 (by decide) ?_
      refine lv_goto (tgt := 38) hx hb d_Pl_indirects_22 (by decide) ?_
      rw [hQ]
      have e1 : (1 : Int32) = r := Option.some.inj h
      exact W.iret (v := 1) hx hb hr (fun t ht hW => ⟨⟨1, (), rfl, e1, by rw [ht]; exact hP, va_K.moved hW.alike hK, hD⟩, hS.F ht⟩) hS.2.2 d_Pl_indirects_38
  · have h := lf_f h c_1
    refine lv_iconst (v := 0) hx hb d_Pl_indirects_6 (by decide) ?_
    rw [hQ]
    have e1 : (0 : Int32) = r := Option.some.inj h
    exact W.iret (v := 0) hx hb hr (fun t ht hW => ⟨⟨0, (), rfl, e1, by rw [ht]; exact hP, va_K.moved hW.alike hK, hD⟩, hS.F ht⟩) hS.2.2 d_Pl_indirects_7
set_option maxHeartbeats 4000000 in
set_option maxRecDepth 100000 in
theorem l_Pl_entriesOf (l : Launch) (dC : Nat → ClassId) (dI : Nat → Nat → Nat) {K : Nat} {M : CA} {E : (Nat → Prop) → State → Prop} (X : ly_X l dC dI K M E) (sz : Nat) {Y : CT} {G : CG} {S S' : CS} {p0 : Int32} {r : Int32} (h : f_Pl_entriesOf K G S p0 = some (r, S')) : Met l y_Pl_entriesOf (.code y_Pl_entriesOf cb_Pl_entriesOf 2 (some .int) :: V_Vq) ({ frames := 2, cells := 0, slots := 0, locals := 42 }) (va_Pc [.ref M.o_Pl, .int p0] (fun U => U.heap.size = sz ∧ at_ (dC, dI) (fun _ => True) (wV M Y G S) (tV M) U ∧ E (va_A (wV M Y G S) sz) U)) (va_Qi (fun (r_ : Int32) (u : Unit) => r_ = r) (fun (u : Unit) t => at_ (dC, dI) (va_A (wV M Y G S) sz) (wV M Y G S') (tV M) t) (va_A (wV M Y G S) sz)) 0 0 (va_A (wV M Y G S) sz) := by
  refine Met.ofW (cc := cb_Pl_entriesOf) (maxL := 2) (ret := (some .int)) (by decide) rfl ?_
  intro p e s m args below meth c s₁ B hml hv
  obtain ⟨rfl, hsz, ⟨hP, hK, hD0⟩, hE⟩ := hv
  have hx := B.exec
  have hb := B.bytes
  have hr := B.returns
  have hts0 := atoms_spec (ws := .code y_Pl_entriesOf cb_Pl_entriesOf 2 (some .int) :: V_Vq) B.pre
  have hts : ∀ w ∈ V_Vq, w.before ([.ref M.o_Pl, .int p0] : List Value).toArray s = true := fun w h => hts0 w (List.mem_cons_of_mem _ h)
  have hown : s.vm.findClass R_Pl = some m.cls := findClass_of_methodNamed B.named
  subst hsz
  have hD := hD0.self (sz := s.heap.size)
  generalize hAe : va_A (wV M Y G S) s.heap.size = A at hD hE ⊢
  have hA : ∀ q : Nat, s.heap.size ≤ q → A q := fun q h => by rw [← hAe]; exact Or.inr h
  have hS : va_S A s.heap s.heap [] := va_S.rf
  have hP : va_P (dC, dI) classes (wV M Y G S) s.heap := hP
  have hK : va_K (dC, dI) classes (tV M) s := hK
  have hEw : ∀ (H : Heap) (locs : List Loc), va_S A s.heap H locs → ∀ U : State, U.heap = H → s.WarmedH U.vm → E A U := fun H locs hS U hU hW => X.kept A s U H locs hE hS hU hW
  have hl := lv_entry ([.ref M.o_Pl, .int p0]) (n := 2) (Nat.le_of_ble_eq_true rfl)
  rw [lg_entry_eq]
  generalize (lg_sl ([.ref M.o_Pl, .int p0]) ++ List.replicate (2 - (lg_sl ([.ref M.o_Pl, .int p0])).length) Slot.unset).toArray = ls at hl ⊢
  have hl : lv_has ls 2 [(0, .ref M.o_Pl), (1, .int p0)] := hl
  refine qabs (fun Q hQ => ?_)
  have hB_19 : ∀ (z_0 : Int32) (z_1 : Int32) (S : CS) (H : Heap) (locs : List Loc) (ls : Array Slot), f_Pl_entriesOf_19 K G z_0 z_1 S = some (r, S') → va_P (dC, dI) classes (wV M Y G S) H → va_D A (wV M Y G S) → va_S A s.heap H locs → lv_has ls 2 [] → W p l e ({ frames := 2, cells := 0, slots := 0, locals := 42 }) s m ([.ref M.o_Pl, .int p0] : List Value).toArray below meth c H locs 0 0 Q (F0 m 19 ls [.int z_1, .int z_0]) := by
    intro z_0 z_1 S H locs ls h hP hD hS hl
    rw [f_Pl_entriesOf_19] at h
    refine lv_iadd hx hb d_Pl_entriesOf_19 ?_
    rw [hQ]
    have e1 : (z_0 + z_1) = r := congrArg Prod.fst (Option.some.inj h)
    have e2 : S = S' := congrArg Prod.snd (Option.some.inj h)
    have hP := ly_newP e2.symm hP
    have hD := ly_newD e2.symm hD
    exact W.iret (v := (z_0 + z_1)) hx hb hr (fun t ht hW => ⟨⟨(z_0 + z_1), (), rfl, e1, by rw [ht]; exact hP, va_K.moved hW.alike hK, hD⟩, hS.F ht⟩) hS.2.2 d_Pl_entriesOf_20
  rw [f_Pl_entriesOf] at h
  refine lv_iconst (v := 2) hx hb d_Pl_entriesOf_0 (by decide) ?_
  refine lv_aload_n hx hb d_Pl_entriesOf_1 rfl (lv_at hl 0 rfl) ?_
  refine va_get (D := (dC, dI)) (ci := 9) (v := .ref M.o_Tr) (C := R_Pl) (T := F_Pl) (N := 17) hx hb hts (fun w h => u_Vq_Pl w (i_Pl w h)) hown hK hP 7 rfl rfl 2 (by decide) (hts _ (u_Vq_Pl _ k_Pl_13)) (fun _ h9 => h9) rfl d_Pl_entriesOf_2 ?_
  refine lv_iload_n hx hb d_Pl_entriesOf_5 rfl (lv_at hl 1 rfl) ?_
  obtain ⟨r_1, S_1, hc_1, h⟩ := lf_cE h
  have hFc := lx_free hD hS hA
  refine va_calli (va_runV (As := [.int p0]) (rest := [.int 2]) ⟨hx, hb, hml, hown, hts⟩ (l_Tr_countIn l dC dI X _ hc_1) (cwV 1 hts (gwV good_Vq (u_Vq_Pl _ k_Pl_120) (u_Vq_Tr _ k_Tr_91) (u_Vq_Tr _ k_Tr_92) (u_Vq_Tr _ k_Tr_0) (wcs (u_Vq_Tr _ k_Tr_93) (fun _ h => h))) rfl rfl rfl (by decide +kernel) ⟨Nat.le_of_ble_eq_true rfl, Nat.le_of_ble_eq_true rfl⟩) (pv_ofE (X.same _) (fun U z1 z2 => X.mono _ _ U hFc (hEw _ _ hS U z1 z2)) hP hK hD (va_recv hK hP (ci := 5) (q0 := 4) rfl rfl)) rfl rfl hl.1 rfl (lv_room (Nat.le_of_ble_eq_true rfl)) d_Pl_entriesOf_6 ⟨by decide, by decide⟩) hS (fun q _ h => hFc q h) hFc (fun r_ u t H locs ht hvm hw hB hz1 hk1 hS => ?_)
  rw [hw]
  obtain ⟨hP, -, hD⟩ := hB
  rw [ht] at hP
  have hD := lx_dj hD hFc
  refine lv_iadd hx hb d_Pl_entriesOf_9 ?_
  refine lv_iload_n hx hb d_Pl_entriesOf_10 rfl (lv_at hl 1 rfl) ?_
  refine lv_if_ne (tgt := 18) hx hb d_Pl_entriesOf_11 (by decide) (fun c_2 => ?_) (fun c_2 => ?_)
  · have h := lf_f h c_2
    refine lv_iconst (v := 0) hx hb d_Pl_entriesOf_18 (by decide) ?_
    exact hB_19 (2 + r_1) 0 S_1 _ _ _ h hP hD hS (lv_sub hl [] rfl)
  · have h := lf_t h c_2
    refine lv_iconst (v := 1) hx hb d_Pl_entriesOf_14 (by decide) ?_
    refine lv_goto (tgt := 19) hx hb d_Pl_entriesOf_15 (by decide) ?_
    exact hB_19 (2 + r_1) 1 S_1 _ _ _ h hP hD hS (lv_sub hl [] rfl)
set_option maxHeartbeats 4000000 in
set_option maxRecDepth 100000 in
theorem l_Pl_nameSize (l : Launch) (dC : Nat → ClassId) (dI : Nat → Nat → Nat) {K : Nat} {M : CA} {E : (Nat → Prop) → State → Prop} (X : ly_X l dC dI K M E) (sz : Nat) {Y : CT} {G : CG} {S S' : CS} {p0 : Int32} {p1 : Int32} {r : Int32} (h : f_Pl_nameSize K G S p0 p1 = some (r, S')) : Met l y_Pl_nameSize (.code y_Pl_nameSize cb_Pl_nameSize 3 (some .int) :: V_Vq) ({ frames := 7, cells := 0, slots := 0, locals := 220 }) (va_Pc [.ref M.o_Pl, .int p0, .int p1] (fun U => U.heap.size = sz ∧ at_ (dC, dI) (fun _ => True) (wV M Y G S) (tV M) U ∧ E (va_A (wV M Y G S) sz) U)) (va_Qi (fun (r_ : Int32) (u : Unit) => r_ = r) (fun (u : Unit) t => at_ (dC, dI) (va_A (wV M Y G S) sz) (wV M Y G S') (tV M) t) (va_A (wV M Y G S) sz)) 0 0 (va_A (wV M Y G S) sz) := by
  refine Met.ofW (cc := cb_Pl_nameSize) (maxL := 3) (ret := (some .int)) (by decide) rfl ?_
  intro p e s m args below meth c s₁ B hml hv
  obtain ⟨rfl, hsz, ⟨hP, hK, hD0⟩, hE⟩ := hv
  have hx := B.exec
  have hb := B.bytes
  have hr := B.returns
  have hts0 := atoms_spec (ws := .code y_Pl_nameSize cb_Pl_nameSize 3 (some .int) :: V_Vq) B.pre
  have hts : ∀ w ∈ V_Vq, w.before ([.ref M.o_Pl, .int p0, .int p1] : List Value).toArray s = true := fun w h => hts0 w (List.mem_cons_of_mem _ h)
  have hown : s.vm.findClass R_Pl = some m.cls := findClass_of_methodNamed B.named
  subst hsz
  have hD := hD0.self (sz := s.heap.size)
  generalize hAe : va_A (wV M Y G S) s.heap.size = A at hD hE ⊢
  have hA : ∀ q : Nat, s.heap.size ≤ q → A q := fun q h => by rw [← hAe]; exact Or.inr h
  have hS : va_S A s.heap s.heap [] := va_S.rf
  have hP : va_P (dC, dI) classes (wV M Y G S) s.heap := hP
  have hK : va_K (dC, dI) classes (tV M) s := hK
  have hEw : ∀ (H : Heap) (locs : List Loc), va_S A s.heap H locs → ∀ U : State, U.heap = H → s.WarmedH U.vm → E A U := fun H locs hS U hU hW => X.kept A s U H locs hE hS hU hW
  have hl := lv_entry ([.ref M.o_Pl, .int p0, .int p1]) (n := 3) (Nat.le_of_ble_eq_true rfl)
  rw [lg_entry_eq]
  generalize (lg_sl ([.ref M.o_Pl, .int p0, .int p1]) ++ List.replicate (3 - (lg_sl ([.ref M.o_Pl, .int p0, .int p1])).length) Slot.unset).toArray = ls at hl ⊢
  have hl : lv_has ls 3 [(0, .ref M.o_Pl), (1, .int p0), (2, .int p1)] := hl
  refine qabs (fun Q hQ => ?_)
  rw [f_Pl_nameSize] at h
  refine lv_iload_n hx hb d_Pl_nameSize_0 rfl (lv_at hl 2 rfl) ?_
  refine lv_iconst (v := 2) hx hb d_Pl_nameSize_1 (by decide) ?_
  refine lv_icmp_ge (tgt := 9) hx hb d_Pl_nameSize_2 (by decide) (fun c_1 => ?_) (fun c_1 => ?_)
  · have h := lf_t h c_1
    refine lv_iload_n hx hb d_Pl_nameSize_9 rfl (lv_at hl 2 rfl) ?_
    refine lv_iconst (v := 2) hx hb d_Pl_nameSize_10 (by decide) ?_
    refine lv_isub hx hb d_Pl_nameSize_11 ?_
    refine lv_aload_n hx hb d_Pl_nameSize_12 rfl (lv_at hl 0 rfl) ?_
    refine va_get (D := (dC, dI)) (ci := 9) (v := .ref M.o_Tr) (C := R_Pl) (T := F_Pl) (N := 17) hx hb hts (fun w h => u_Vq_Pl w (i_Pl w h)) hown hK hP 7 rfl rfl 2 (by decide) (hts _ (u_Vq_Pl _ k_Pl_13)) (fun _ h9 => h9) rfl d_Pl_nameSize_13 ?_
    refine lv_iload_n hx hb d_Pl_nameSize_16 rfl (lv_at hl 1 rfl) ?_
    obtain ⟨r_2, S_2, hc_2, h⟩ := lf_cE h
    have hFc := lx_free hD hS hA
    refine va_calli (va_runV (As := [.int p0]) (rest := [.int (p1 - 2)]) ⟨hx, hb, hml, hown, hts⟩ (l_Tr_countIn l dC dI X _ hc_2) (cwV 1 hts (gwV good_Vq (u_Vq_Pl _ k_Pl_120) (u_Vq_Tr _ k_Tr_91) (u_Vq_Tr _ k_Tr_92) (u_Vq_Tr _ k_Tr_0) (wcs (u_Vq_Tr _ k_Tr_93) (fun _ h => h))) rfl rfl rfl (by decide +kernel) ⟨Nat.le_of_ble_eq_true rfl, Nat.le_of_ble_eq_true rfl⟩) (pv_ofE (X.same _) (fun U z1 z2 => X.mono _ _ U hFc (hEw _ _ hS U z1 z2)) hP hK hD (va_recv hK hP (ci := 5) (q0 := 4) rfl rfl)) rfl rfl hl.1 rfl (lv_room (Nat.le_of_ble_eq_true rfl)) d_Pl_nameSize_17 ⟨by decide, by decide⟩) hS (fun q _ h => hFc q h) hFc (fun r_ u t H locs ht hvm hw hB hz1 hk1 hS => ?_)
    rw [hw]
    obtain ⟨hP, -, hD⟩ := hB
    rw [ht] at hP
    have hD := lx_dj hD hFc
    refine lv_icmp_ge (tgt := 42) hx hb d_Pl_nameSize_20 (by decide) (fun c_3 => ?_) (fun c_3 => ?_)
    · have h := lf_t h c_3
      refine va_ldcS hx hb hown (X.str_Pl_207 A s hE) d_Pl_nameSize_42 ?_
      have hFc := lx_free0 hS hA
      refine va_calli (va_runV (As := []) (rest := []) ⟨hx, hb, hml, hown, hts⟩ (X.length_Pl_207 _) (cwV 0 hts (gwV good_Vq (u_Vq_Pl _ k_Pl_126) (k_Vq_3) (k_Vq_4) (k_Vq_0) (wcs (k_Vq_5) (fun _ h => h))) rfl rfl rfl (by decide +kernel) ⟨Nat.le_of_ble_eq_true rfl, Nat.le_of_ble_eq_true rfl⟩) (pv_ofE (W := []) (tys := []) (X.same _) (fun U z1 z2 => X.mono _ _ U hFc (hEw _ _ hS U z1 z2)) (hP.sub (ws' := []) [] rfl) (hK.sub [] rfl) (hD.sub (ws' := []) [] (by decide) rfl) (X.recv_Pl_207 _ (lx_s s _) (hEw _ _ hS (lx_s s _) rfl (State.WarmedH.refl s)))) rfl rfl hl.1 rfl (lv_room (Nat.le_of_ble_eq_true rfl)) d_Pl_nameSize_44 ⟨by decide, by decide⟩) hS (fun q _ h => hFc q h) hFc (fun r_ u t H locs ht hvm hw hB hz1 hk1 hS => ?_)
      rw [hw]
      have hP := lx_stat (A := A) hP hk1
      rw [hQ]
      have e1 : (7 : Int32) = r := congrArg Prod.fst (Option.some.inj h)
      have e2 : S_2 = S' := congrArg Prod.snd (Option.some.inj h)
      have hP := ly_newP e2.symm hP
      have hD := ly_newD e2.symm hD
      exact W.iret (v := 7) hx hb hr (fun t ht hW => ⟨⟨7, (), rfl, e1, by rw [ht]; exact hP, va_K.moved hW.alike hK, hD⟩, hS.F ht⟩) hS.2.2 d_Pl_nameSize_47
    · have h := lf_f h c_3
      refine lv_aload_n hx hb d_Pl_nameSize_23 rfl (lv_at hl 0 rfl) ?_
      refine va_get (D := (dC, dI)) (ci := 9) (v := .ref M.o_Tr) (C := R_Pl) (T := F_Pl) (N := 17) hx hb hts (fun w h => u_Vq_Pl w (i_Pl w h)) hown hK hP 7 rfl rfl 2 (by decide) (hts _ (u_Vq_Pl _ k_Pl_13)) (fun _ h9 => h9) rfl d_Pl_nameSize_24 ?_
      refine lv_aload_n hx hb d_Pl_nameSize_27 rfl (lv_at hl 0 rfl) ?_
      refine va_get (D := (dC, dI)) (ci := 9) (v := .ref M.o_Tr) (C := R_Pl) (T := F_Pl) (N := 17) hx hb hts (fun w h => u_Vq_Pl w (i_Pl w h)) hown hK hP 7 rfl rfl 2 (by decide) (hts _ (u_Vq_Pl _ k_Pl_13)) (fun _ h9 => h9) rfl d_Pl_nameSize_28 ?_
      refine lv_iload_n hx hb d_Pl_nameSize_31 rfl (lv_at hl 1 rfl) ?_
      refine lv_iload_n hx hb d_Pl_nameSize_32 rfl (lv_at hl 2 rfl) ?_
      refine lv_iconst (v := 2) hx hb d_Pl_nameSize_33 (by decide) ?_
      refine lv_isub hx hb d_Pl_nameSize_34 ?_
      obtain ⟨r_5, S_5, hc_5, h⟩ := lf_cE h
      have hFc := lx_free hD hS hA
      refine va_calli (va_runV (As := [.int p0, .int (p1 - 2)]) (rest := [.ref M.o_Tr]) ⟨hx, hb, hml, hown, hts⟩ (l_Tr_kid l dC dI X _ hc_5) (cwV 2 hts (gwV good_Vq (u_Vq_Pl _ k_Pl_125) (u_Vq_Tr _ k_Tr_54) (u_Vq_Tr _ k_Tr_55) (u_Vq_Tr _ k_Tr_0) (wcs (u_Vq_Tr _ k_Tr_56) (fun _ h => h))) rfl rfl rfl (by decide +kernel) ⟨Nat.le_of_ble_eq_true rfl, Nat.le_of_ble_eq_true rfl⟩) (pv_ofE (X.same _) (fun U z1 z2 => X.mono _ _ U hFc (hEw _ _ hS U z1 z2)) hP hK hD (va_recv hK hP (ci := 5) (q0 := 4) rfl rfl)) rfl rfl hl.1 rfl (lv_room (Nat.le_of_ble_eq_true rfl)) d_Pl_nameSize_35 ⟨by decide, by decide⟩) hS (fun q _ h => hFc q h) hFc (fun r_ u t H locs ht hvm hw hB hz1 hk1 hS => ?_)
      rw [hw]
      obtain ⟨hP, -, hD⟩ := hB
      rw [ht] at hP
      have hD := lx_dj hD hFc
      obtain ⟨r_6, S_6, hc_6, h⟩ := lf_cE h
      have hFc := lx_free hD hS hA
      refine va_calli (va_runV (As := [.int r_5]) (rest := []) ⟨hx, hb, hml, hown, hts⟩ (l_Tr_nameSize l dC dI X _ hc_6) (cwV 1 hts (gwV good_Vq (u_Vq_Pl _ k_Pl_60) (u_Vq_Tr _ k_Tr_74) (u_Vq_Tr _ k_Tr_75) (u_Vq_Tr _ k_Tr_0) (wcs (u_Vq_Tr _ k_Tr_76) (fun _ h => h))) rfl rfl rfl (by decide +kernel) ⟨Nat.le_of_ble_eq_true rfl, Nat.le_of_ble_eq_true rfl⟩) (pv_ofE (X.same _) (fun U z1 z2 => X.mono _ _ U hFc (hEw _ _ hS U z1 z2)) hP hK hD (va_recv hK hP (ci := 5) (q0 := 4) rfl rfl)) rfl rfl hl.1 rfl (lv_room (Nat.le_of_ble_eq_true rfl)) d_Pl_nameSize_38 ⟨by decide, by decide⟩) hS (fun q _ h => hFc q h) hFc (fun r_ u t H locs ht hvm hw hB hz1 hk1 hS => ?_)
      rw [hw]
      obtain ⟨hP, -, hD⟩ := hB
      rw [ht] at hP
      have hD := lx_dj hD hFc
      rw [hQ]
      have e1 : r_6 = r := congrArg Prod.fst (Option.some.inj h)
      have e2 : S_6 = S' := congrArg Prod.snd (Option.some.inj h)
      have hP := ly_newP e2.symm hP
      have hD := ly_newD e2.symm hD
      exact W.iret (v := r_6) hx hb hr (fun t ht hW => ⟨⟨r_6, (), rfl, e1, by rw [ht]; exact hP, va_K.moved hW.alike hK, hD⟩, hS.F ht⟩) hS.2.2 d_Pl_nameSize_41
  · have h := lf_f h c_1
    refine lv_iload_n hx hb d_Pl_nameSize_5 rfl (lv_at hl 2 rfl) ?_
    refine lv_iconst (v := 1) hx hb d_Pl_nameSize_6 (by decide) ?_
    refine lv_iadd hx hb d_Pl_nameSize_7 ?_
    rw [hQ]
    have e1 : (p1 + 1) = r := congrArg Prod.fst (Option.some.inj h)
    have e2 : S = S' := congrArg Prod.snd (Option.some.inj h)
    have hP := ly_newP e2.symm hP
    have hD := ly_newD e2.symm hD
    exact W.iret (v := (p1 + 1)) hx hb hr (fun t ht hW => ⟨⟨(p1 + 1), (), rfl, e1, by rw [ht]; exact hP, va_K.moved hW.alike hK, hD⟩, hS.F ht⟩) hS.2.2 d_Pl_nameSize_8
set_option maxHeartbeats 4000000 in
set_option maxRecDepth 100000 in
theorem l_Pl_entryLength (l : Launch) (dC : Nat → ClassId) (dI : Nat → Nat → Nat) {K : Nat} (sz : Nat) {p0 : Int32} {r : Int32} (h : f_Pl_entryLength K p0 = some r) : Met l y_Pl_entryLength (.code y_Pl_entryLength b_Pl_entryLength 1 (some .int) :: V_Vq) ({ frames := 0, cells := 0, slots := 0, locals := 0 }) (va_Pc [.int p0] (fun U => U.heap.size = sz ∧ at_ (dC, dI) (fun _ => True) [] [] U)) (va_Qi (fun (r_ : Int32) (u : Unit) => r_ = r) (fun (u : Unit) t => at_ (dC, dI) (va_A [] sz) [] [] t) (va_A [] sz)) 0 0 (va_A [] sz) := by
  refine Met.ofW (cc := b_Pl_entryLength) (maxL := 1) (ret := (some .int)) (by decide) rfl ?_
  intro p e s m args below meth c s₁ B hml hv
  obtain ⟨rfl, hsz, hP, hK, hD0⟩ := hv
  have hx := B.exec
  have hb := B.bytes
  have hr := B.returns
  have hts0 := atoms_spec (ws := .code y_Pl_entryLength b_Pl_entryLength 1 (some .int) :: V_Vq) B.pre
  have hts : ∀ w ∈ V_Vq, w.before ([.int p0] : List Value).toArray s = true := fun w h => hts0 w (List.mem_cons_of_mem _ h)
  have hown : s.vm.findClass R_Pl = some m.cls := findClass_of_methodNamed B.named
  subst hsz
  have hD := hD0.self (sz := s.heap.size)
  generalize hAe : va_A [] s.heap.size = A at hD ⊢
  have hA : ∀ q : Nat, s.heap.size ≤ q → A q := fun q h => by rw [← hAe]; exact Or.inr h
  have hS : va_S A s.heap s.heap [] := va_S.rf
  have hP : va_P (dC, dI) classes [] s.heap := hP
  have hK : va_K (dC, dI) classes [] s := hK
  have hl := lv_entry ([.int p0]) (n := 1) (Nat.le_of_ble_eq_true rfl)
  rw [lg_entry_eq]
  generalize (lg_sl ([.int p0]) ++ List.replicate (1 - (lg_sl ([.int p0])).length) Slot.unset).toArray = ls at hl ⊢
  have hl : lv_has ls 1 [(0, .int p0)] := hl
  refine qabs (fun Q hQ => ?_)
  rw [f_Pl_entryLength] at h
  refine lv_bipush (v := 8) hx hb d_Pl_entryLength_0 (by decide) ?_
  refine lv_iload_n hx hb d_Pl_entryLength_2 rfl (lv_at hl 0 rfl) ?_
  refine lv_iadd hx hb d_Pl_entryLength_3 ?_
  refine lv_iconst (v := 3) hx hb d_Pl_entryLength_4 (by decide) ?_
  refine lv_iadd hx hb d_Pl_entryLength_5 ?_
  refine lv_iconst (v := 4) hx hb d_Pl_entryLength_6 (by decide) ?_
  refine lv_idiv hx hb d_Pl_entryLength_7 (by decide) ?_
  refine lv_iconst (v := 4) hx hb d_Pl_entryLength_8 (by decide) ?_
  refine lv_imul hx hb d_Pl_entryLength_9 ?_
  rw [hQ]
  have e1 : ((((8 + p0) + 3) / 4) * 4) = r := Option.some.inj h
  exact W.iret (v := ((((8 + p0) + 3) / 4) * 4)) hx hb hr (fun t ht hW => ⟨⟨((((8 + p0) + 3) / 4) * 4), (), rfl, e1, by rw [ht]; exact hP, va_K.moved hW.alike hK, hD⟩, hS.F ht⟩) hS.2.2 d_Pl_entryLength_10
set_option maxHeartbeats 4000000 in
set_option maxRecDepth 100000 in
theorem l_Pl_blocksBuilt (l : Launch) (dC : Nat → ClassId) (dI : Nat → Nat → Nat) {K : Nat} {M : CA} {E : (Nat → Prop) → State → Prop} (X : ly_X l dC dI K M E) (sz : Nat) {Y : CT} {G : CG} {S S' : CS} {p0 : Int32} {r : Int32} (h : f_Pl_blocksBuilt K G S p0 = some (r, S')) : Met l y_Pl_blocksBuilt (.code y_Pl_blocksBuilt cb_Pl_blocksBuilt 6 (some .int) :: V_Vq) ({ frames := 8, cells := 0, slots := 0, locals := 242 }) (va_Pc [.ref M.o_Pl, .int p0] (fun U => U.heap.size = sz ∧ at_ (dC, dI) (fun _ => True) (wV M Y G S) (tV M) U ∧ E (va_A (wV M Y G S) sz) U)) (va_Qi (fun (r_ : Int32) (u : Unit) => r_ = r) (fun (u : Unit) t => at_ (dC, dI) (va_A (wV M Y G S) sz) (wV M Y G S') (tV M) t) (va_A (wV M Y G S) sz)) 0 0 (va_A (wV M Y G S) sz) := by
  refine Met.ofW (cc := cb_Pl_blocksBuilt) (maxL := 6) (ret := (some .int)) (by decide) rfl ?_
  intro p e s m args below meth c s₁ B hml hv
  obtain ⟨rfl, hsz, ⟨hP, hK, hD0⟩, hE⟩ := hv
  have hx := B.exec
  have hb := B.bytes
  have hr := B.returns
  have hts0 := atoms_spec (ws := .code y_Pl_blocksBuilt cb_Pl_blocksBuilt 6 (some .int) :: V_Vq) B.pre
  have hts : ∀ w ∈ V_Vq, w.before ([.ref M.o_Pl, .int p0] : List Value).toArray s = true := fun w h => hts0 w (List.mem_cons_of_mem _ h)
  have hown : s.vm.findClass R_Pl = some m.cls := findClass_of_methodNamed B.named
  subst hsz
  have hD := hD0.self (sz := s.heap.size)
  generalize hAe : va_A (wV M Y G S) s.heap.size = A at hD hE ⊢
  have hA : ∀ q : Nat, s.heap.size ≤ q → A q := fun q h => by rw [← hAe]; exact Or.inr h
  have hS : va_S A s.heap s.heap [] := va_S.rf
  have hP : va_P (dC, dI) classes (wV M Y G S) s.heap := hP
  have hK : va_K (dC, dI) classes (tV M) s := hK
  have hEw : ∀ (H : Heap) (locs : List Loc), va_S A s.heap H locs → ∀ U : State, U.heap = H → s.WarmedH U.vm → E A U := fun H locs hS U hU hW => X.kept A s U H locs hE hS hU hW
  have hl := lv_entry ([.ref M.o_Pl, .int p0]) (n := 6) (Nat.le_of_ble_eq_true rfl)
  rw [lg_entry_eq]
  generalize (lg_sl ([.ref M.o_Pl, .int p0]) ++ List.replicate (6 - (lg_sl ([.ref M.o_Pl, .int p0])).length) Slot.unset).toArray = ls at hl ⊢
  have hl : lv_has ls 6 [(0, .ref M.o_Pl), (1, .int p0)] := hl
  refine qabs (fun Q hQ => ?_)
  have hB_44 : ∀ (rec_7 : Int32 → Int32 → Int32 → Int32 → CS → Option (Int32 × CS)) (hr_7 : ∀ (y_1 : Int32) (y_2 : Int32) (y_3 : Int32) (y_4 : Int32) (S : CS) (H : Heap) (locs : List Loc) (ls : Array Slot), rec_7 y_1 y_2 y_3 y_4 S = some (r, S') → va_P (dC, dI) classes (wV M Y G S) H → va_D A (wV M Y G S) → va_S A s.heap H locs → lv_has ls 6 [(0, .ref M.o_Pl), (1, .int y_1), (2, .int y_2), (3, .int y_3), (4, .int y_4)] → W p l e ({ frames := 8, cells := 0, slots := 0, locals := 242 }) s m ([.ref M.o_Pl, .int p0] : List Value).toArray below meth c H locs 0 0 Q (F0 m 7 ls [])), ∀ (y_1 : Int32) (y_2 : Int32) (y_3 : Int32) (y_4 : Int32) (y_5 : Int32) (S : CS) (H : Heap) (locs : List Loc) (ls : Array Slot), f_Pl_blocksBuilt_44 K G rec_7 y_1 y_2 y_3 y_4 y_5 S = some (r, S') → va_P (dC, dI) classes (wV M Y G S) H → va_D A (wV M Y G S) → va_S A s.heap H locs → lv_has ls 6 [(0, .ref M.o_Pl), (1, .int y_1), (2, .int y_2), (3, .int y_3), (4, .int y_4), (5, .int y_5)] → W p l e ({ frames := 8, cells := 0, slots := 0, locals := 242 }) s m ([.ref M.o_Pl, .int p0] : List Value).toArray below meth c H locs 0 0 Q (F0 m 44 ls []) := by
    intro rec_7 hr_7 y_1 y_2 y_3 y_4 y_5 S H locs ls h hP hD hS hl
    rw [f_Pl_blocksBuilt_44] at h
    refine lv_iload_n hx hb d_Pl_blocksBuilt_44 rfl (lv_at hl 3 rfl) ?_
    refine lv_iload hx hb d_Pl_blocksBuilt_45 (lv_at hl 5 rfl) ?_
    refine lv_iadd hx hb d_Pl_blocksBuilt_47 ?_
    refine lv_topi (fun x_7 ex_7 => ?_)
    have h := lf_lE h ex_7
    refine lv_istore_n (lv' := [(3, .int x_7), (0, .ref M.o_Pl), (1, .int y_1), (2, .int y_2), (4, .int y_4), (5, .int y_5)]) hx hb d_Pl_blocksBuilt_48 rfl hl (by decide) rfl (fun ls hl => ?_)
    obtain ⟨x_8, ex_8, h⟩ := lf_lX h
    refine lv_iinc (v := x_8) (lv' := [(4, .int x_8), (3, .int x_7), (0, .ref M.o_Pl), (1, .int y_1), (2, .int y_2), (5, .int y_5)]) hx hb d_Pl_blocksBuilt_49 hl (k := 4) rfl (by rw [ex_8]; rfl) (by decide) rfl (fun ls hl => ?_)
    refine lv_goto (tgt := 7) hx hb d_Pl_blocksBuilt_52 (by decide) ?_
    exact hr_7 y_1 y_2 x_7 x_8 S _ _ _ h hP hD hS (lv_sub hl [2, 3, 4, 1, 0] rfl)
  have hB_7 : ∀ (k : Nat), ∀ (y_1 : Int32) (y_2 : Int32) (y_3 : Int32) (y_4 : Int32) (S : CS) (H : Heap) (locs : List Loc) (ls : Array Slot), f_Pl_blocksBuilt_7 K G k y_1 y_2 y_3 y_4 S = some (r, S') → va_P (dC, dI) classes (wV M Y G S) H → va_D A (wV M Y G S) → va_S A s.heap H locs → lv_has ls 6 [(0, .ref M.o_Pl), (1, .int y_1), (2, .int y_2), (3, .int y_3), (4, .int y_4)] → W p l e ({ frames := 8, cells := 0, slots := 0, locals := 242 }) s m ([.ref M.o_Pl, .int p0] : List Value).toArray below meth c H locs 0 0 Q (F0 m 7 ls []) := by
    intro k
    induction k with
    | zero => intro y_1 y_2 y_3 y_4 S H locs ls h; exact lf_no h
    | succ k hr_7 =>
      intro y_1 y_2 y_3 y_4 S H locs ls h hP hD hS hl
      rw [f_Pl_blocksBuilt_7] at h
      refine lv_iload hx hb d_Pl_blocksBuilt_7 (lv_at hl 4 rfl) ?_
      refine lv_aload_n hx hb d_Pl_blocksBuilt_9 rfl (lv_at hl 0 rfl) ?_
      refine lv_iload_n hx hb d_Pl_blocksBuilt_10 rfl (lv_at hl 1 rfl) ?_
      obtain ⟨r_1, S_1, hc_1, h⟩ := lf_cE h
      have hFc := lx_free hD hS hA
      refine va_calli (va_runV (As := [.int y_1]) (rest := [.int y_4]) ⟨hx, hb, hml, hown, hts⟩ (l_Pl_entriesOf l dC dI X _ hc_1) (cwV 1 hts (gwV good_Vq (u_Vq_Pl _ k_Pl_116) (u_Vq_Pl _ k_Pl_117) (u_Vq_Pl _ k_Pl_118) (u_Vq_Pl _ k_Pl_0) (wcs (u_Vq_Pl _ k_Pl_119) (fun _ h => h))) rfl rfl rfl (by decide +kernel) ⟨Nat.le_of_ble_eq_true rfl, Nat.le_of_ble_eq_true rfl⟩) (pv_ofE (X.same _) (fun U z1 z2 => X.mono _ _ U hFc (hEw _ _ hS U z1 z2)) hP hK hD (va_recv hK hP (ci := 9) (q0 := 7) rfl rfl)) rfl rfl hl.1 rfl (lv_room (Nat.le_of_ble_eq_true rfl)) d_Pl_blocksBuilt_11 ⟨by decide, by decide⟩) hS (fun q _ h => hFc q h) hFc (fun r_ u t H locs ht hvm hw hB hz1 hk1 hS => ?_)
      rw [hw]
      obtain ⟨hP, -, hD⟩ := hB
      rw [ht] at hP
      have hD := lx_dj hD hFc
      refine lv_icmp_ge (tgt := 55) hx hb d_Pl_blocksBuilt_14 (by decide) (fun c_2 => ?_) (fun c_2 => ?_)
      · have h := lf_t h c_2
        refine lv_iload_n hx hb d_Pl_blocksBuilt_55 rfl (lv_at hl 2 rfl) ?_
        rw [hQ]
        have e1 : y_2 = r := congrArg Prod.fst (Option.some.inj h)
        have e2 : S_1 = S' := congrArg Prod.snd (Option.some.inj h)
        have hP := ly_newP e2.symm hP
        have hD := ly_newD e2.symm hD
        exact W.iret (v := y_2) hx hb hr (fun t ht hW => ⟨⟨y_2, (), rfl, e1, by rw [ht]; exact hP, va_K.moved hW.alike hK, hD⟩, hS.F ht⟩) hS.2.2 d_Pl_blocksBuilt_56
      · have h := lf_f h c_2
        refine lv_aload_n hx hb d_Pl_blocksBuilt_17 rfl (lv_at hl 0 rfl) ?_
        refine lv_iload_n hx hb d_Pl_blocksBuilt_18 rfl (lv_at hl 1 rfl) ?_
        refine lv_iload hx hb d_Pl_blocksBuilt_19 (lv_at hl 4 rfl) ?_
        obtain ⟨r_3, S_3, hc_3, h⟩ := lf_cE h
        have hFc := lx_free hD hS hA
        refine va_calli (va_runV (As := [.int y_1, .int y_4]) (rest := []) ⟨hx, hb, hml, hown, hts⟩ (l_Pl_nameSize l dC dI X _ hc_3) (cwV 2 hts (gwV good_Vq (u_Vq_Pl _ k_Pl_121) (u_Vq_Pl _ k_Pl_122) (u_Vq_Pl _ k_Pl_123) (u_Vq_Pl _ k_Pl_0) (wcs (u_Vq_Pl _ k_Pl_124) (fun _ h => h))) rfl rfl rfl (by decide +kernel) ⟨Nat.le_of_ble_eq_true rfl, Nat.le_of_ble_eq_true rfl⟩) (pv_ofE (X.same _) (fun U z1 z2 => X.mono _ _ U hFc (hEw _ _ hS U z1 z2)) hP hK hD (va_recv hK hP (ci := 9) (q0 := 7) rfl rfl)) rfl rfl hl.1 rfl (lv_room (Nat.le_of_ble_eq_true rfl)) d_Pl_blocksBuilt_21 ⟨by decide, by decide⟩) hS (fun q _ h => hFc q h) hFc (fun r_ u t H locs ht hvm hw hB hz1 hk1 hS => ?_)
        rw [hw]
        obtain ⟨hP, -, hD⟩ := hB
        rw [ht] at hP
        have hD := lx_dj hD hFc
        obtain ⟨r_4, hc_4, h⟩ := lf_bE h
        have hFc := lx_free0 hS hA
        refine va_calli (va_runS (As := [.int r_3]) (rest := []) ⟨hx, hb, hml, hown, hts⟩ (l_Pl_entryLength l dC dI  _ hc_4) (va_cwS 1 hts (gwS good_Vq (u_Vq_Pl _ k_Pl_127) (u_Vq_Pl _ k_Pl_128) (u_Vq_Pl _ k_Pl_0) (wcs (u_Vq_Pl _ k_Pl_129) (fun _ h => h))) rfl rfl rfl (by decide +kernel) ⟨Nat.le_of_ble_eq_true rfl, Nat.le_of_ble_eq_true rfl⟩) (ps_of (W := []) (tys := []) (hP.sub (ws' := []) [] rfl) (hK.sub [] rfl) (hD.sub (ws' := []) [] (by decide) rfl)) rfl rfl hl.1 rfl (lv_room (Nat.le_of_ble_eq_true rfl)) d_Pl_blocksBuilt_24 ⟨by decide, by decide⟩) hS (fun q _ h => hFc q h) hFc (fun r_ u t H locs ht hvm hw hB hz1 hk1 hS => ?_)
        rw [hw]
        have hP := lx_stat (A := A) hP hk1
        refine lv_istore (lv' := [(5, .int r_4), (0, .ref M.o_Pl), (1, .int y_1), (2, .int y_2), (3, .int y_3), (4, .int y_4)]) hx hb d_Pl_blocksBuilt_27 hl (by decide) rfl (fun ls hl => ?_)
        refine lv_iload_n hx hb d_Pl_blocksBuilt_29 rfl (lv_at hl 4 rfl) ?_
        refine lv_iload hx hb d_Pl_blocksBuilt_30 (lv_at hl 0 rfl) ?_
        refine lv_iadd hx hb d_Pl_blocksBuilt_32 ?_
        refine lv_sipush (v := 1024) hx hb d_Pl_blocksBuilt_33 (by decide) ?_
        refine lv_icmp_le (tgt := 44) hx hb d_Pl_blocksBuilt_36 (by decide) (fun c_5 => ?_) (fun c_5 => ?_)
        · have h := lf_t h c_5
          exact hB_44 _ hr_7 y_1 y_2 y_3 y_4 r_4 S_3 _ _ _ h hP hD hS (lv_sub hl [1, 2, 3, 4, 5, 0] rfl)
        · have h := lf_f h c_5
          obtain ⟨x_6, ex_6, h⟩ := lf_lX h
          refine lv_iinc (v := x_6) (lv' := [(2, .int x_6), (5, .int r_4), (0, .ref M.o_Pl), (1, .int y_1), (3, .int y_3), (4, .int y_4)]) hx hb d_Pl_blocksBuilt_39 hl (k := 3) rfl (by rw [ex_6]; rfl) (by decide) rfl (fun ls hl => ?_)
          refine lv_iconst (v := 0) hx hb d_Pl_blocksBuilt_42 (by decide) ?_
          refine lv_istore_n (lv' := [(3, .int 0), (2, .int x_6), (5, .int r_4), (0, .ref M.o_Pl), (1, .int y_1), (4, .int y_4)]) hx hb d_Pl_blocksBuilt_43 rfl hl (by decide) rfl (fun ls hl => ?_)
          exact hB_44 _ hr_7 y_1 x_6 0 y_4 r_4 S_3 _ _ _ h hP hD hS (lv_sub hl [3, 4, 1, 0, 5, 2] rfl)
  rw [f_Pl_blocksBuilt] at h
  refine lv_iconst (v := 1) hx hb d_Pl_blocksBuilt_0 (by decide) ?_
  refine lv_istore_n (lv' := [(2, .int 1), (0, .ref M.o_Pl), (1, .int p0)]) hx hb d_Pl_blocksBuilt_1 rfl hl (by decide) rfl (fun ls hl => ?_)
  refine lv_iconst (v := 0) hx hb d_Pl_blocksBuilt_2 (by decide) ?_
  refine lv_istore_n (lv' := [(3, .int 0), (2, .int 1), (0, .ref M.o_Pl), (1, .int p0)]) hx hb d_Pl_blocksBuilt_3 rfl hl (by decide) rfl (fun ls hl => ?_)
  refine lv_iconst (v := 0) hx hb d_Pl_blocksBuilt_4 (by decide) ?_
  refine lv_istore (lv' := [(4, .int 0), (3, .int 0), (2, .int 1), (0, .ref M.o_Pl), (1, .int p0)]) hx hb d_Pl_blocksBuilt_5 hl (by decide) rfl (fun ls hl => ?_)
  exact hB_7 K p0 1 0 0 S _ _ _ h hP hD hS (lv_sub hl [3, 4, 2, 1, 0] rfl)
set_option maxHeartbeats 4000000 in
set_option maxRecDepth 100000 in
theorem l_Pl_assign (l : Launch) (dC : Nat → ClassId) (dI : Nat → Nat → Nat) {K : Nat} {M : CA} {E : (Nat → Prop) → State → Prop} (X : ly_X l dC dI K M E) (sz : Nat) {Y : CT} {G : CG} {S S' : CS} {r : Int32} (h : f_Pl_assign K G S = some (r, S')) : Met l y_Pl_assign (.code y_Pl_assign cb_Pl_assign 3 (some .boolean) :: V_Vq) ({ frames := 9, cells := 0, slots := 0, locals := 267 }) (va_Pc [.ref M.o_Pl] (fun U => U.heap.size = sz ∧ at_ (dC, dI) (fun _ => True) (wV M Y G S) (tV M) U ∧ E (va_A (wV M Y G S) sz) U)) (va_Qi (fun (r_ : Int32) (u : Unit) => r_ = r) (fun (u : Unit) t => at_ (dC, dI) (va_A (wV M Y G S) sz) (wV M Y G S') (tV M) t) (va_A (wV M Y G S) sz)) 0 0 (va_A (wV M Y G S) sz) := by
  refine Met.ofW (cc := cb_Pl_assign) (maxL := 3) (ret := (some .boolean)) (by decide) rfl ?_
  intro p e s m args below meth c s₁ B hml hv
  obtain ⟨rfl, hsz, ⟨hP, hK, hD0⟩, hE⟩ := hv
  have hx := B.exec
  have hb := B.bytes
  have hr := B.returns
  have hts0 := atoms_spec (ws := .code y_Pl_assign cb_Pl_assign 3 (some .boolean) :: V_Vq) B.pre
  have hts : ∀ w ∈ V_Vq, w.before ([.ref M.o_Pl] : List Value).toArray s = true := fun w h => hts0 w (List.mem_cons_of_mem _ h)
  have hown : s.vm.findClass R_Pl = some m.cls := findClass_of_methodNamed B.named
  subst hsz
  have hD := hD0.self (sz := s.heap.size)
  generalize hAe : va_A (wV M Y G S) s.heap.size = A at hD hE ⊢
  have hA : ∀ q : Nat, s.heap.size ≤ q → A q := fun q h => by rw [← hAe]; exact Or.inr h
  have hS : va_S A s.heap s.heap [] := va_S.rf
  have hP : va_P (dC, dI) classes (wV M Y G S) s.heap := hP
  have hK : va_K (dC, dI) classes (tV M) s := hK
  have hEw : ∀ (H : Heap) (locs : List Loc), va_S A s.heap H locs → ∀ U : State, U.heap = H → s.WarmedH U.vm → E A U := fun H locs hS U hU hW => X.kept A s U H locs hE hS hU hW
  have hl := lv_entry ([.ref M.o_Pl]) (n := 3) (Nat.le_of_ble_eq_true rfl)
  rw [lg_entry_eq]
  generalize (lg_sl ([.ref M.o_Pl]) ++ List.replicate (3 - (lg_sl ([.ref M.o_Pl])).length) Slot.unset).toArray = ls at hl ⊢
  have hl : lv_has ls 3 [(0, .ref M.o_Pl)] := hl
  refine qabs (fun Q hQ => ?_)
  have hB_76 : ∀ (rec_20 : Int32 → CS → Option (Int32 × CS)) (hr_20 : ∀ (y_1 : Int32) (S : CS) (H : Heap) (locs : List Loc) (ls : Array Slot), rec_20 y_1 S = some (r, S') → va_P (dC, dI) classes (wV M Y G S) H → va_D A (wV M Y G S) → va_S A s.heap H locs → lv_has ls 3 [(0, .ref M.o_Pl), (1, .int y_1)] → W p l e ({ frames := 9, cells := 0, slots := 0, locals := 267 }) s m ([.ref M.o_Pl] : List Value).toArray below meth c H locs 0 0 Q (F0 m 20 ls [])), ∀ (y_1 : Int32) (S : CS) (H : Heap) (locs : List Loc) (ls : Array Slot), f_Pl_assign_76 K G rec_20 y_1 S = some (r, S') → va_P (dC, dI) classes (wV M Y G S) H → va_D A (wV M Y G S) → va_S A s.heap H locs → lv_has ls 3 [(0, .ref M.o_Pl), (1, .int y_1)] → W p l e ({ frames := 9, cells := 0, slots := 0, locals := 267 }) s m ([.ref M.o_Pl] : List Value).toArray below meth c H locs 0 0 Q (F0 m 76 ls []) := by
    intro rec_20 hr_20 y_1 S H locs ls h hP hD hS hl
    rw [f_Pl_assign_76] at h
    obtain ⟨x_19, ex_19, h⟩ := lf_lX h
    refine lv_iinc (v := x_19) (lv' := [(1, .int x_19), (0, .ref M.o_Pl)]) hx hb d_Pl_assign_76 hl (k := 1) rfl (by rw [ex_19]; rfl) (by decide) rfl (fun ls hl => ?_)
    refine lv_goto (tgt := 20) hx hb d_Pl_assign_79 (by decide) ?_
    exact hr_20 x_19 S _ _ _ h hP hD hS (lv_sub hl [1, 0] rfl)
  have hB_149 : ∀ (rec_84 : Int32 → CS → Option (Int32 × CS)) (hr_84 : ∀ (y_1 : Int32) (S : CS) (H : Heap) (locs : List Loc) (ls : Array Slot), rec_84 y_1 S = some (r, S') → va_P (dC, dI) classes (wV M Y G S) H → va_D A (wV M Y G S) → va_S A s.heap H locs → lv_has ls 3 [(0, .ref M.o_Pl), (1, .int y_1)] → W p l e ({ frames := 9, cells := 0, slots := 0, locals := 267 }) s m ([.ref M.o_Pl] : List Value).toArray below meth c H locs 0 0 Q (F0 m 84 ls [])), ∀ (y_1 : Int32) (S : CS) (H : Heap) (locs : List Loc) (ls : Array Slot), f_Pl_assign_149 K G rec_84 y_1 S = some (r, S') → va_P (dC, dI) classes (wV M Y G S) H → va_D A (wV M Y G S) → va_S A s.heap H locs → lv_has ls 3 [(0, .ref M.o_Pl), (1, .int y_1)] → W p l e ({ frames := 9, cells := 0, slots := 0, locals := 267 }) s m ([.ref M.o_Pl] : List Value).toArray below meth c H locs 0 0 Q (F0 m 149 ls []) := by
    intro rec_84 hr_84 y_1 S H locs ls h hP hD hS hl
    rw [f_Pl_assign_149] at h
    obtain ⟨x_20, ex_20, h⟩ := lf_lX h
    refine lv_iinc (v := x_20) (lv' := [(1, .int x_20), (0, .ref M.o_Pl)]) hx hb d_Pl_assign_149 hl (k := 1) rfl (by rw [ex_20]; rfl) (by decide) rfl (fun ls hl => ?_)
    refine lv_goto (tgt := 84) hx hb d_Pl_assign_152 (by decide) ?_
    exact hr_84 x_20 S _ _ _ h hP hD hS (lv_sub hl [1, 0] rfl)
  have hB_84 : ∀ (k : Nat), ∀ (y_1 : Int32) (S : CS) (H : Heap) (locs : List Loc) (ls : Array Slot), f_Pl_assign_84 K G k y_1 S = some (r, S') → va_P (dC, dI) classes (wV M Y G S) H → va_D A (wV M Y G S) → va_S A s.heap H locs → lv_has ls 3 [(0, .ref M.o_Pl), (1, .int y_1)] → W p l e ({ frames := 9, cells := 0, slots := 0, locals := 267 }) s m ([.ref M.o_Pl] : List Value).toArray below meth c H locs 0 0 Q (F0 m 84 ls []) := by
    intro k
    induction k with
    | zero => intro y_1 S H locs ls h; exact lf_no h
    | succ k hr_84 =>
      intro y_1 S H locs ls h hP hD hS hl
      rw [f_Pl_assign_84] at h
      refine lv_iload_n hx hb d_Pl_assign_84 rfl (lv_at hl 1 rfl) ?_
      refine lv_aload_n hx hb d_Pl_assign_85 rfl (lv_at hl 0 rfl) ?_
      refine va_get (D := (dC, dI)) (ci := 9) (v := .ref M.o_Tr) (C := R_Pl) (T := F_Pl) (N := 17) hx hb hts (fun w h => u_Vq_Pl w (i_Pl w h)) hown hK hP 7 rfl rfl 2 (by decide) (hts _ (u_Vq_Pl _ k_Pl_13)) (fun _ h9 => h9) rfl d_Pl_assign_86 ?_
      refine va_get (D := (dC, dI)) (ci := 5) (v := .int S.v_Tr_count) (C := R_Tr) (T := F_Tr) (N := 18) hx hb hts (fun w h => u_Vq_Tr w (i_Tr w h)) hown hK hP 4 rfl rfl 0 (by decide) (hts _ (u_Vq_Pl _ k_Pl_5)) (fun _ h9 => h9) rfl d_Pl_assign_89 ?_
      refine lv_icmp_ge (tgt := 155) hx hb d_Pl_assign_92 (by decide) (fun c_11 => ?_) (fun c_11 => ?_)
      · have h := lf_t h c_11
        refine lv_aload_n hx hb d_Pl_assign_155 rfl (lv_at hl 0 rfl) ?_
        refine va_get (D := (dC, dI)) (ci := 9) (v := .int S.v_Pl_built) (C := R_Pl) (T := F_Pl) (N := 17) hx hb hts (fun w h => u_Vq_Pl w (i_Pl w h)) hown hK hP 7 rfl rfl 15 (by decide) (hts _ (u_Vq_Pl _ k_Pl_26)) (fun _ h9 => h9) rfl d_Pl_assign_156 ?_
        refine lv_aload_n hx hb d_Pl_assign_159 rfl (lv_at hl 0 rfl) ?_
        refine va_get (D := (dC, dI)) (ci := 9) (v := .int S.v_Pl_roomCount) (C := R_Pl) (T := F_Pl) (N := 17) hx hb hts (fun w h => u_Vq_Pl w (i_Pl w h)) hown hK hP 7 rfl rfl 8 (by decide) (hts _ (u_Vq_Pl _ k_Pl_19)) (fun _ h9 => h9) rfl d_Pl_assign_160 ?_
        refine lv_icmp_gt (tgt := 170) hx hb d_Pl_assign_163 (by decide) (fun c_12 => ?_) (fun c_12 => ?_)
        · have h := lf_t h c_12
          refine lv_iconst (v := 0) hx hb d_Pl_assign_170 (by decide) ?_
          rw [hQ]
          have e1 : (0 : Int32) = r := congrArg Prod.fst (Option.some.inj h)
          have e2 : S = S' := congrArg Prod.snd (Option.some.inj h)
          have hP := ly_newP e2.symm hP
          have hD := ly_newD e2.symm hD
          exact W.zret (v := 0) hx hb hr rfl (fun t ht hW => ⟨⟨0, (), rfl, e1, by rw [ht]; exact hP, va_K.moved hW.alike hK, hD⟩, hS.F ht⟩) hS.2.2 d_Pl_assign_171
        · have h := lf_f h c_12
          refine lv_iconst (v := 1) hx hb d_Pl_assign_166 (by decide) ?_
          refine lv_goto (tgt := 171) hx hb d_Pl_assign_167 (by decide) ?_
          rw [hQ]
          have e1 : (1 : Int32) = r := congrArg Prod.fst (Option.some.inj h)
          have e2 : S = S' := congrArg Prod.snd (Option.some.inj h)
          have hP := ly_newP e2.symm hP
          have hD := ly_newD e2.symm hD
          exact W.zret (v := 1) hx hb hr rfl (fun t ht hW => ⟨⟨1, (), rfl, e1, by rw [ht]; exact hP, va_K.moved hW.alike hK, hD⟩, hS.F ht⟩) hS.2.2 d_Pl_assign_171
      · have h := lf_f h c_11
        refine lv_aload_n hx hb d_Pl_assign_95 rfl (lv_at hl 0 rfl) ?_
        refine va_get (D := (dC, dI)) (ci := 9) (v := .ref M.o_Tr) (C := R_Pl) (T := F_Pl) (N := 17) hx hb hts (fun w h => u_Vq_Pl w (i_Pl w h)) hown hK hP 7 rfl rfl 2 (by decide) (hts _ (u_Vq_Pl _ k_Pl_13)) (fun _ h9 => h9) rfl d_Pl_assign_96 ?_
        refine lv_iload_n hx hb d_Pl_assign_99 rfl (lv_at hl 1 rfl) ?_
        obtain ⟨r_13, S_13, hc_13, h⟩ := lf_cE h
        have hFc := lx_free hD hS hA
        refine va_calli (va_runV (As := [.int y_1]) (rest := []) ⟨hx, hb, hml, hown, hts⟩ (l_Tr_isDirectory l dC dI X _ hc_13) (cwV 1 hts (gwV good_Vq (u_Vq_Pl _ k_Pl_102) (u_Vq_Tr _ k_Tr_42) (u_Vq_Tr _ k_Tr_43) (u_Vq_Tr _ k_Tr_0) (wcs (u_Vq_Tr _ k_Tr_44) (fun _ h => h))) rfl rfl rfl (by decide +kernel) ⟨Nat.le_of_ble_eq_true rfl, Nat.le_of_ble_eq_true rfl⟩) (pv_ofE (X.same _) (fun U z1 z2 => X.mono _ _ U hFc (hEw _ _ hS U z1 z2)) hP hK hD (va_recv hK hP (ci := 5) (q0 := 4) rfl rfl)) rfl rfl hl.1 rfl (lv_room (Nat.le_of_ble_eq_true rfl)) d_Pl_assign_100 ⟨by decide, by decide⟩) hS (fun q _ h => hFc q h) hFc (fun r_ u t H locs ht hvm hw hB hz1 hk1 hS => ?_)
        rw [hw]
        obtain ⟨hP, -, hD⟩ := hB
        rw [ht] at hP
        have hD := lx_dj hD hFc
        refine lv_if_ne (tgt := 149) hx hb d_Pl_assign_103 (by decide) (fun c_14 => ?_) (fun c_14 => ?_)
        · have h := lf_f h c_14
          exact hB_149 _ hr_84 y_1 S_13 _ _ _ h hP hD hS (lv_sub hl [0, 1] rfl)
        · have h := lf_t h c_14
          refine lv_aload_n hx hb d_Pl_assign_106 rfl (lv_at hl 0 rfl) ?_
          refine va_get (D := (dC, dI)) (ci := 9) (v := .ref M.o_Tr) (C := R_Pl) (T := F_Pl) (N := 17) hx hb hts (fun w h => u_Vq_Pl w (i_Pl w h)) hown hK hP 7 rfl rfl 2 (by decide) (hts _ (u_Vq_Pl _ k_Pl_13)) (fun _ h9 => h9) rfl d_Pl_assign_107 ?_
          refine lv_iload_n hx hb d_Pl_assign_110 rfl (lv_at hl 1 rfl) ?_
          refine lv_aload_n hx hb d_Pl_assign_111 rfl (lv_at hl 0 rfl) ?_
          refine va_get (D := (dC, dI)) (ci := 9) (v := .int S_13.v_Pl_built) (C := R_Pl) (T := F_Pl) (N := 17) hx hb hts (fun w h => u_Vq_Pl w (i_Pl w h)) hown hK hP 7 rfl rfl 15 (by decide) (hts _ (u_Vq_Pl _ k_Pl_26)) (fun _ h9 => h9) rfl d_Pl_assign_112 ?_
          refine lv_iconst (v := 0) hx hb d_Pl_assign_115 (by decide) ?_
          obtain ⟨S_15, hc_15, h⟩ := lf_bE h
          have hFc := lx_free hD hS hA
          refine va_callv (va_runV (As := [.int y_1, .int S_13.v_Pl_built, .int 0]) (rest := []) ⟨hx, hb, hml, hown, hts⟩ (l_Tr_setBuilt l dC dI X _ hc_15) (cwV 3 hts (gwV good_Vq (u_Vq_Pl _ k_Pl_130) (u_Vq_Tr _ k_Tr_94) (u_Vq_Tr _ k_Tr_95) (u_Vq_Tr _ k_Tr_0) (wcs (u_Vq_Tr _ k_Tr_96) (fun _ h => h))) rfl rfl rfl (by decide +kernel) ⟨Nat.le_of_ble_eq_true rfl, Nat.le_of_ble_eq_true rfl⟩) (pv_ofE (X.same _) (fun U z1 z2 => X.mono _ _ U hFc (hEw _ _ hS U z1 z2)) hP hK hD (va_recv hK hP (ci := 5) (q0 := 4) rfl rfl)) rfl rfl hl.1 rfl (lv_room (Nat.le_of_ble_eq_true rfl)) d_Pl_assign_116 ⟨by decide, by decide⟩) hS (fun q _ h => hFc q h) hFc (fun u t H locs ht hvm hw hB hz1 hk1 hS => ?_)
          obtain ⟨hP, -, hD⟩ := hB
          rw [ht] at hP
          have hD := lx_dj hD hFc
          refine lv_aload_n hx hb d_Pl_assign_119 rfl (lv_at hl 0 rfl) ?_
          refine lv_dup hx hb d_Pl_assign_120 rfl ?_
          refine va_get (D := (dC, dI)) (ci := 9) (v := .int S_15.v_Pl_built) (C := R_Pl) (T := F_Pl) (N := 17) hx hb hts (fun w h => u_Vq_Pl w (i_Pl w h)) hown hK hP 7 rfl rfl 15 (by decide) (hts _ (u_Vq_Pl _ k_Pl_26)) (fun _ h9 => h9) rfl d_Pl_assign_121 ?_
          refine lv_aload_n hx hb d_Pl_assign_124 rfl (lv_at hl 0 rfl) ?_
          refine va_get (D := (dC, dI)) (ci := 9) (v := .ref M.o_Tr) (C := R_Pl) (T := F_Pl) (N := 17) hx hb hts (fun w h => u_Vq_Pl w (i_Pl w h)) hown hK hP 7 rfl rfl 2 (by decide) (hts _ (u_Vq_Pl _ k_Pl_13)) (fun _ h9 => h9) rfl d_Pl_assign_125 ?_
          refine lv_iload_n hx hb d_Pl_assign_128 rfl (lv_at hl 1 rfl) ?_
          obtain ⟨r_16, S_16, hc_16, h⟩ := lf_cE h
          have hFc := lx_free hD hS hA
          refine va_calli (va_runV (As := [.int y_1]) (rest := [.int S_15.v_Pl_built, .ref M.o_Pl]) ⟨hx, hb, hml, hown, hts⟩ (l_Tr_sizeOf l dC dI X _ hc_16) (cwV 1 hts (gwV good_Vq (u_Vq_Pl _ k_Pl_109) (u_Vq_Tr _ k_Tr_88) (u_Vq_Tr _ k_Tr_89) (u_Vq_Tr _ k_Tr_0) (wcs (u_Vq_Tr _ k_Tr_90) (fun _ h => h))) rfl rfl rfl (by decide +kernel) ⟨Nat.le_of_ble_eq_true rfl, Nat.le_of_ble_eq_true rfl⟩) (pv_ofE (X.same _) (fun U z1 z2 => X.mono _ _ U hFc (hEw _ _ hS U z1 z2)) hP hK hD (va_recv hK hP (ci := 5) (q0 := 4) rfl rfl)) rfl rfl hl.1 rfl (lv_room (Nat.le_of_ble_eq_true rfl)) d_Pl_assign_129 ⟨by decide, by decide⟩) hS (fun q _ h => hFc q h) hFc (fun r_ u t H locs ht hvm hw hB hz1 hk1 hS => ?_)
          rw [hw]
          obtain ⟨hP, -, hD⟩ := hB
          rw [ht] at hP
          have hD := lx_dj hD hFc
          refine lv_sipush (v := 1024) hx hb d_Pl_assign_132 (by decide) ?_
          refine lv_iadd hx hb d_Pl_assign_135 ?_
          refine lv_iconst (v := 1) hx hb d_Pl_assign_136 (by decide) ?_
          refine lv_isub hx hb d_Pl_assign_137 ?_
          refine lv_sipush (v := 1024) hx hb d_Pl_assign_138 (by decide) ?_
          refine lv_idiv hx hb d_Pl_assign_141 (by decide) ?_
          obtain ⟨r_17, hc_17, h⟩ := lf_bE h
          have hFc := lx_free0 hS hA
          refine va_calli (va_runS (As := [.int (((r_16 + 1024) - 1) / 1024)]) (rest := [.int S_15.v_Pl_built, .ref M.o_Pl]) ⟨hx, hb, hml, hown, hts⟩ (l_Pl_indirects l dC dI  _ hc_17) (va_cwS 1 hts (gwS good_Vq (u_Vq_Pl _ k_Pl_110) (u_Vq_Pl _ k_Pl_111) (u_Vq_Pl _ k_Pl_0) (wcs (u_Vq_Pl _ k_Pl_112) (fun _ h => h))) rfl rfl rfl (by decide +kernel) ⟨Nat.le_of_ble_eq_true rfl, Nat.le_of_ble_eq_true rfl⟩) (ps_of (W := []) (tys := []) (hP.sub (ws' := []) [] rfl) (hK.sub [] rfl) (hD.sub (ws' := []) [] (by decide) rfl)) rfl rfl hl.1 rfl (lv_room (Nat.le_of_ble_eq_true rfl)) d_Pl_assign_142 ⟨by decide, by decide⟩) hS (fun q _ h => hFc q h) hFc (fun r_ u t H locs ht hvm hw hB hz1 hk1 hS => ?_)
          rw [hw]
          have hP := lx_stat (A := A) hP hk1
          refine lv_iadd hx hb d_Pl_assign_145 ?_
          refine va_put (D := (dC, dI)) (ci := 9) (v := .int (S_15.v_Pl_built + r_17)) (ty := .int) (C := R_Pl) (T := F_Pl) (N := 17) hx hb hts (fun w h => u_Vq_Pl w (i_Pl w h)) t_Pl t_Pl_ok n_Pl hown hK hP hD hS 7 rfl rfl 15 (by decide) (hts _ (u_Vq_Pl _ k_Pl_26)) (fun _ h9 => h9) rfl (by decide +kernel) rfl rfl (Nat.le_of_ble_eq_true rfl) d_Pl_assign_146 (fun H locs hP hD hS => ?_)
          obtain ⟨S_18, eS_18, h⟩ := lf_lX h
          have hP := ly_newP eS_18 hP
          have hD := ly_newD eS_18 hD
          exact hB_149 _ hr_84 y_1 S_18 _ _ _ h hP hD hS (lv_sub hl [0, 1] rfl)
  have hB_20 : ∀ (k : Nat), ∀ (y_1 : Int32) (S : CS) (H : Heap) (locs : List Loc) (ls : Array Slot), f_Pl_assign_20 K G k y_1 S = some (r, S') → va_P (dC, dI) classes (wV M Y G S) H → va_D A (wV M Y G S) → va_S A s.heap H locs → lv_has ls 3 [(0, .ref M.o_Pl), (1, .int y_1)] → W p l e ({ frames := 9, cells := 0, slots := 0, locals := 267 }) s m ([.ref M.o_Pl] : List Value).toArray below meth c H locs 0 0 Q (F0 m 20 ls []) := by
    intro k
    induction k with
    | zero => intro y_1 S H locs ls h; exact lf_no h
    | succ k hr_20 =>
      intro y_1 S H locs ls h hP hD hS hl
      rw [f_Pl_assign_20] at h
      refine lv_iload_n hx hb d_Pl_assign_20 rfl (lv_at hl 1 rfl) ?_
      refine lv_aload_n hx hb d_Pl_assign_21 rfl (lv_at hl 0 rfl) ?_
      refine va_get (D := (dC, dI)) (ci := 9) (v := .ref M.o_Tr) (C := R_Pl) (T := F_Pl) (N := 17) hx hb hts (fun w h => u_Vq_Pl w (i_Pl w h)) hown hK hP 7 rfl rfl 2 (by decide) (hts _ (u_Vq_Pl _ k_Pl_13)) (fun _ h9 => h9) rfl d_Pl_assign_22 ?_
      refine va_get (D := (dC, dI)) (ci := 5) (v := .int S.v_Tr_count) (C := R_Tr) (T := F_Tr) (N := 18) hx hb hts (fun w h => u_Vq_Tr w (i_Tr w h)) hown hK hP 4 rfl rfl 0 (by decide) (hts _ (u_Vq_Pl _ k_Pl_5)) (fun _ h9 => h9) rfl d_Pl_assign_25 ?_
      refine lv_icmp_ge (tgt := 82) hx hb d_Pl_assign_28 (by decide) (fun c_4 => ?_) (fun c_4 => ?_)
      · have h := lf_t h c_4
        refine lv_iconst (v := 0) hx hb d_Pl_assign_82 (by decide) ?_
        refine lv_istore_n (lv' := [(1, .int 0), (0, .ref M.o_Pl)]) hx hb d_Pl_assign_83 rfl hl (by decide) rfl (fun ls hl => ?_)
        exact hB_84 K 0 S _ _ _ h hP hD hS (lv_sub hl [1, 0] rfl)
      · have h := lf_f h c_4
        refine lv_aload_n hx hb d_Pl_assign_31 rfl (lv_at hl 0 rfl) ?_
        refine va_get (D := (dC, dI)) (ci := 9) (v := .ref M.o_Tr) (C := R_Pl) (T := F_Pl) (N := 17) hx hb hts (fun w h => u_Vq_Pl w (i_Pl w h)) hown hK hP 7 rfl rfl 2 (by decide) (hts _ (u_Vq_Pl _ k_Pl_13)) (fun _ h9 => h9) rfl d_Pl_assign_32 ?_
        refine lv_iload_n hx hb d_Pl_assign_35 rfl (lv_at hl 1 rfl) ?_
        obtain ⟨r_5, S_5, hc_5, h⟩ := lf_cE h
        have hFc := lx_free hD hS hA
        refine va_calli (va_runV (As := [.int y_1]) (rest := []) ⟨hx, hb, hml, hown, hts⟩ (l_Tr_isDirectory l dC dI X _ hc_5) (cwV 1 hts (gwV good_Vq (u_Vq_Pl _ k_Pl_102) (u_Vq_Tr _ k_Tr_42) (u_Vq_Tr _ k_Tr_43) (u_Vq_Tr _ k_Tr_0) (wcs (u_Vq_Tr _ k_Tr_44) (fun _ h => h))) rfl rfl rfl (by decide +kernel) ⟨Nat.le_of_ble_eq_true rfl, Nat.le_of_ble_eq_true rfl⟩) (pv_ofE (X.same _) (fun U z1 z2 => X.mono _ _ U hFc (hEw _ _ hS U z1 z2)) hP hK hD (va_recv hK hP (ci := 5) (q0 := 4) rfl rfl)) rfl rfl hl.1 rfl (lv_room (Nat.le_of_ble_eq_true rfl)) d_Pl_assign_36 ⟨by decide, by decide⟩) hS (fun q _ h => hFc q h) hFc (fun r_ u t H locs ht hvm hw hB hz1 hk1 hS => ?_)
        rw [hw]
        obtain ⟨hP, -, hD⟩ := hB
        rw [ht] at hP
        have hD := lx_dj hD hFc
        refine lv_if_eq (tgt := 76) hx hb d_Pl_assign_39 (by decide) (fun c_6 => ?_) (fun c_6 => ?_)
        · have h := lf_t h c_6
          exact hB_76 _ hr_20 y_1 S_5 _ _ _ h hP hD hS (lv_sub hl [0, 1] rfl)
        · have h := lf_f h c_6
          refine lv_aload_n hx hb d_Pl_assign_42 rfl (lv_at hl 0 rfl) ?_
          refine lv_iload_n hx hb d_Pl_assign_43 rfl (lv_at hl 1 rfl) ?_
          obtain ⟨r_7, S_7, hc_7, h⟩ := lf_cE h
          have hFc := lx_free hD hS hA
          refine va_calli (va_runV (As := [.int y_1]) (rest := []) ⟨hx, hb, hml, hown, hts⟩ (l_Pl_blocksBuilt l dC dI X _ hc_7) (cwV 1 hts (gwV good_Vq (u_Vq_Pl _ k_Pl_113) (u_Vq_Pl _ k_Pl_114) (u_Vq_Pl _ k_Pl_176) (u_Vq_Pl _ k_Pl_0) (wcs (u_Vq_Pl _ k_Pl_115) (fun _ h => h))) rfl rfl rfl (by decide +kernel) ⟨Nat.le_of_ble_eq_true rfl, Nat.le_of_ble_eq_true rfl⟩) (pv_ofE (X.same _) (fun U z1 z2 => X.mono _ _ U hFc (hEw _ _ hS U z1 z2)) hP hK hD (va_recv hK hP (ci := 9) (q0 := 7) rfl rfl)) rfl rfl hl.1 rfl (lv_room (Nat.le_of_ble_eq_true rfl)) d_Pl_assign_44 ⟨by decide, by decide⟩) hS (fun q _ h => hFc q h) hFc (fun r_ u t H locs ht hvm hw hB hz1 hk1 hS => ?_)
          rw [hw]
          obtain ⟨hP, -, hD⟩ := hB
          rw [ht] at hP
          have hD := lx_dj hD hFc
          refine lv_istore_n (lv' := [(2, .int r_7), (0, .ref M.o_Pl), (1, .int y_1)]) hx hb d_Pl_assign_47 rfl hl (by decide) rfl (fun ls hl => ?_)
          refine lv_aload_n hx hb d_Pl_assign_48 rfl (lv_at hl 1 rfl) ?_
          refine va_get (D := (dC, dI)) (ci := 9) (v := .ref M.o_Tr) (C := R_Pl) (T := F_Pl) (N := 17) hx hb hts (fun w h => u_Vq_Pl w (i_Pl w h)) hown hK hP 7 rfl rfl 2 (by decide) (hts _ (u_Vq_Pl _ k_Pl_13)) (fun _ h9 => h9) rfl d_Pl_assign_49 ?_
          refine lv_iload_n hx hb d_Pl_assign_52 rfl (lv_at hl 2 rfl) ?_
          refine lv_aload_n hx hb d_Pl_assign_53 rfl (lv_at hl 1 rfl) ?_
          refine va_get (D := (dC, dI)) (ci := 9) (v := .int S_7.v_Pl_built) (C := R_Pl) (T := F_Pl) (N := 17) hx hb hts (fun w h => u_Vq_Pl w (i_Pl w h)) hown hK hP 7 rfl rfl 15 (by decide) (hts _ (u_Vq_Pl _ k_Pl_26)) (fun _ h9 => h9) rfl d_Pl_assign_54 ?_
          refine lv_iload_n hx hb d_Pl_assign_57 rfl (lv_at hl 0 rfl) ?_
          obtain ⟨S_8, hc_8, h⟩ := lf_bE h
          have hFc := lx_free hD hS hA
          refine va_callv (va_runV (As := [.int y_1, .int S_7.v_Pl_built, .int r_7]) (rest := []) ⟨hx, hb, hml, hown, hts⟩ (l_Tr_setBuilt l dC dI X _ hc_8) (cwV 3 hts (gwV good_Vq (u_Vq_Pl _ k_Pl_130) (u_Vq_Tr _ k_Tr_94) (u_Vq_Tr _ k_Tr_95) (u_Vq_Tr _ k_Tr_0) (wcs (u_Vq_Tr _ k_Tr_96) (fun _ h => h))) rfl rfl rfl (by decide +kernel) ⟨Nat.le_of_ble_eq_true rfl, Nat.le_of_ble_eq_true rfl⟩) (pv_ofE (X.same _) (fun U z1 z2 => X.mono _ _ U hFc (hEw _ _ hS U z1 z2)) hP hK hD (va_recv hK hP (ci := 5) (q0 := 4) rfl rfl)) rfl rfl hl.1 rfl (lv_room (Nat.le_of_ble_eq_true rfl)) d_Pl_assign_58 ⟨by decide, by decide⟩) hS (fun q _ h => hFc q h) hFc (fun u t H locs ht hvm hw hB hz1 hk1 hS => ?_)
          obtain ⟨hP, -, hD⟩ := hB
          rw [ht] at hP
          have hD := lx_dj hD hFc
          refine lv_aload_n hx hb d_Pl_assign_61 rfl (lv_at hl 1 rfl) ?_
          refine lv_dup hx hb d_Pl_assign_62 rfl ?_
          refine va_get (D := (dC, dI)) (ci := 9) (v := .int S_8.v_Pl_built) (C := R_Pl) (T := F_Pl) (N := 17) hx hb hts (fun w h => u_Vq_Pl w (i_Pl w h)) hown hK hP 7 rfl rfl 15 (by decide) (hts _ (u_Vq_Pl _ k_Pl_26)) (fun _ h9 => h9) rfl d_Pl_assign_63 ?_
          refine lv_iload_n hx hb d_Pl_assign_66 rfl (lv_at hl 0 rfl) ?_
          refine lv_iload_n hx hb d_Pl_assign_67 rfl (lv_at hl 0 rfl) ?_
          obtain ⟨r_9, hc_9, h⟩ := lf_bE h
          have hFc := lx_free0 hS hA
          refine va_calli (va_runS (As := [.int r_7]) (rest := [.int r_7, .int S_8.v_Pl_built, .ref M.o_Pl]) ⟨hx, hb, hml, hown, hts⟩ (l_Pl_indirects l dC dI  _ hc_9) (va_cwS 1 hts (gwS good_Vq (u_Vq_Pl _ k_Pl_110) (u_Vq_Pl _ k_Pl_111) (u_Vq_Pl _ k_Pl_0) (wcs (u_Vq_Pl _ k_Pl_112) (fun _ h => h))) rfl rfl rfl (by decide +kernel) ⟨Nat.le_of_ble_eq_true rfl, Nat.le_of_ble_eq_true rfl⟩) (ps_of (W := []) (tys := []) (hP.sub (ws' := []) [] rfl) (hK.sub [] rfl) (hD.sub (ws' := []) [] (by decide) rfl)) rfl rfl hl.1 rfl (lv_room (Nat.le_of_ble_eq_true rfl)) d_Pl_assign_68 ⟨by decide, by decide⟩) hS (fun q _ h => hFc q h) hFc (fun r_ u t H locs ht hvm hw hB hz1 hk1 hS => ?_)
          rw [hw]
          have hP := lx_stat (A := A) hP hk1
          refine lv_iadd hx hb d_Pl_assign_71 ?_
          refine lv_iadd hx hb d_Pl_assign_72 ?_
          refine va_put (D := (dC, dI)) (ci := 9) (v := .int (S_8.v_Pl_built + (r_7 + r_9))) (ty := .int) (C := R_Pl) (T := F_Pl) (N := 17) hx hb hts (fun w h => u_Vq_Pl w (i_Pl w h)) t_Pl t_Pl_ok n_Pl hown hK hP hD hS 7 rfl rfl 15 (by decide) (hts _ (u_Vq_Pl _ k_Pl_26)) (fun _ h9 => h9) rfl (by decide +kernel) rfl rfl (Nat.le_of_ble_eq_true rfl) d_Pl_assign_73 (fun H locs hP hD hS => ?_)
          obtain ⟨S_10, eS_10, h⟩ := lf_lX h
          have hP := ly_newP eS_10 hP
          have hD := ly_newD eS_10 hD
          exact hB_76 _ hr_20 y_1 S_10 _ _ _ h hP hD hS (lv_sub hl [1, 2] rfl)
  rw [f_Pl_assign] at h
  refine lv_aload_n hx hb d_Pl_assign_0 rfl (lv_at hl 0 rfl) ?_
  refine lv_iconst (v := (-1)) hx hb d_Pl_assign_1 (by decide) ?_
  obtain ⟨S_1, hc_1, h⟩ := lf_bE h
  have hFc := lx_free hD hS hA
  refine va_callv (va_runV (As := [.int ((-1))]) (rest := []) ⟨hx, hb, hml, hown, hts⟩ (l_Pl_gather l dC dI X _ hc_1) (cwV 1 hts (gwV good_Vq (u_Vq_Pl _ k_Pl_89) (u_Vq_Pl _ k_Pl_90) (u_Vq_Pl _ k_Pl_91) (u_Vq_Pl _ k_Pl_0) (wcs (u_Vq_Pl _ k_Pl_92) (fun _ h => h))) rfl rfl rfl (by decide +kernel) ⟨Nat.le_of_ble_eq_true rfl, Nat.le_of_ble_eq_true rfl⟩) (pv_ofE (X.same _) (fun U z1 z2 => X.mono _ _ U hFc (hEw _ _ hS U z1 z2)) hP hK hD (va_recv hK hP (ci := 9) (q0 := 7) rfl rfl)) rfl rfl hl.1 rfl (lv_room (Nat.le_of_ble_eq_true rfl)) d_Pl_assign_2 ⟨by decide, by decide⟩) hS (fun q _ h => hFc q h) hFc (fun u t H locs ht hvm hw hB hz1 hk1 hS => ?_)
  obtain ⟨hP, -, hD⟩ := hB
  rw [ht] at hP
  have hD := lx_dj hD hFc
  refine lv_aload_n hx hb d_Pl_assign_5 rfl (lv_at hl 0 rfl) ?_
  refine lv_iconst (v := 3) hx hb d_Pl_assign_6 (by decide) ?_
  refine lv_aload_n hx hb d_Pl_assign_7 rfl (lv_at hl 0 rfl) ?_
  refine va_get (D := (dC, dI)) (ci := 9) (v := .int S_1.v_Pl_listed) (C := R_Pl) (T := F_Pl) (N := 17) hx hb hts (fun w h => u_Vq_Pl w (i_Pl w h)) hown hK hP 7 rfl rfl 10 (by decide) (hts _ (u_Vq_Pl _ k_Pl_21)) (fun _ h9 => h9) rfl d_Pl_assign_8 ?_
  obtain ⟨r_2, hc_2, h⟩ := lf_bE h
  have hFc := lx_free0 hS hA
  refine va_calli (va_runS (As := [.int S_1.v_Pl_listed]) (rest := [.int 3, .ref M.o_Pl]) ⟨hx, hb, hml, hown, hts⟩ (l_Pl_indirects l dC dI  _ hc_2) (va_cwS 1 hts (gwS good_Vq (u_Vq_Pl _ k_Pl_110) (u_Vq_Pl _ k_Pl_111) (u_Vq_Pl _ k_Pl_0) (wcs (u_Vq_Pl _ k_Pl_112) (fun _ h => h))) rfl rfl rfl (by decide +kernel) ⟨Nat.le_of_ble_eq_true rfl, Nat.le_of_ble_eq_true rfl⟩) (ps_of (W := []) (tys := []) (hP.sub (ws' := []) [] rfl) (hK.sub [] rfl) (hD.sub (ws' := []) [] (by decide) rfl)) rfl rfl hl.1 rfl (lv_room (Nat.le_of_ble_eq_true rfl)) d_Pl_assign_11 ⟨by decide, by decide⟩) hS (fun q _ h => hFc q h) hFc (fun r_ u t H locs ht hvm hw hB hz1 hk1 hS => ?_)
  rw [hw]
  have hP := lx_stat (A := A) hP hk1
  refine lv_iadd hx hb d_Pl_assign_14 ?_
  refine va_put (D := (dC, dI)) (ci := 9) (v := .int (3 + r_2)) (ty := .int) (C := R_Pl) (T := F_Pl) (N := 17) hx hb hts (fun w h => u_Vq_Pl w (i_Pl w h)) t_Pl t_Pl_ok n_Pl hown hK hP hD hS 7 rfl rfl 15 (by decide) (hts _ (u_Vq_Pl _ k_Pl_26)) (fun _ h9 => h9) rfl (by decide +kernel) rfl rfl (Nat.le_of_ble_eq_true rfl) d_Pl_assign_15 (fun H locs hP hD hS => ?_)
  obtain ⟨S_3, eS_3, h⟩ := lf_lX h
  have hP := ly_newP eS_3 hP
  have hD := ly_newD eS_3 hD
  refine lv_iconst (v := 0) hx hb d_Pl_assign_18 (by decide) ?_
  refine lv_istore_n (lv' := [(1, .int 0), (0, .ref M.o_Pl)]) hx hb d_Pl_assign_19 rfl hl (by decide) rfl (fun ls hl => ?_)
  exact hB_20 K 0 S_3 _ _ _ h hP hD hS (lv_sub hl [1, 0] rfl)
set_option maxHeartbeats 4000000 in
set_option maxRecDepth 100000 in
theorem l_Pl_isUsed (l : Launch) (dC : Nat → ClassId) (dI : Nat → Nat → Nat) {K : Nat} {M : CA} {E : (Nat → Prop) → State → Prop} (X : ly_X l dC dI K M E) (sz : Nat) {Y : CT} {G : CG} {S S' : CS} {p0 : Int32} {r : Int32} (h : f_Pl_isUsed K G S p0 = some (r, S')) : Met l y_Pl_isUsed (.code y_Pl_isUsed cb_Pl_isUsed 2 (some .boolean) :: V_Vq) ({ frames := 0, cells := 0, slots := 0, locals := 0 }) (va_Pc [.ref M.o_Pl, .int p0] (fun U => U.heap.size = sz ∧ at_ (dC, dI) (fun _ => True) (wV M Y G S) (tV M) U ∧ E (va_A (wV M Y G S) sz) U)) (va_Qi (fun (r_ : Int32) (u : Unit) => r_ = r) (fun (u : Unit) t => at_ (dC, dI) (va_A (wV M Y G S) sz) (wV M Y G S') (tV M) t) (va_A (wV M Y G S) sz)) 0 0 (va_A (wV M Y G S) sz) := by
  refine Met.ofW (cc := cb_Pl_isUsed) (maxL := 2) (ret := (some .boolean)) (by decide) rfl ?_
  intro p e s m args below meth c s₁ B hml hv
  obtain ⟨rfl, hsz, ⟨hP, hK, hD0⟩, hE⟩ := hv
  have hx := B.exec
  have hb := B.bytes
  have hr := B.returns
  have hts0 := atoms_spec (ws := .code y_Pl_isUsed cb_Pl_isUsed 2 (some .boolean) :: V_Vq) B.pre
  have hts : ∀ w ∈ V_Vq, w.before ([.ref M.o_Pl, .int p0] : List Value).toArray s = true := fun w h => hts0 w (List.mem_cons_of_mem _ h)
  have hown : s.vm.findClass R_Pl = some m.cls := findClass_of_methodNamed B.named
  subst hsz
  have hD := hD0.self (sz := s.heap.size)
  generalize hAe : va_A (wV M Y G S) s.heap.size = A at hD hE ⊢
  have hA : ∀ q : Nat, s.heap.size ≤ q → A q := fun q h => by rw [← hAe]; exact Or.inr h
  have hS : va_S A s.heap s.heap [] := va_S.rf
  have hP : va_P (dC, dI) classes (wV M Y G S) s.heap := hP
  have hK : va_K (dC, dI) classes (tV M) s := hK
  have hEw : ∀ (H : Heap) (locs : List Loc), va_S A s.heap H locs → ∀ U : State, U.heap = H → s.WarmedH U.vm → E A U := fun H locs hS U hU hW => X.kept A s U H locs hE hS hU hW
  have hl := lv_entry ([.ref M.o_Pl, .int p0]) (n := 2) (Nat.le_of_ble_eq_true rfl)
  rw [lg_entry_eq]
  generalize (lg_sl ([.ref M.o_Pl, .int p0]) ++ List.replicate (2 - (lg_sl ([.ref M.o_Pl, .int p0])).length) Slot.unset).toArray = ls at hl ⊢
  have hl : lv_has ls 2 [(0, .ref M.o_Pl), (1, .int p0)] := hl
  refine qabs (fun Q hQ => ?_)
  have hB_21 : ∀ (S : CS) (H : Heap) (locs : List Loc) (ls : Array Slot), f_Pl_isUsed_21 K G S = some (r, S') → va_P (dC, dI) classes (wV M Y G S) H → va_D A (wV M Y G S) → va_S A s.heap H locs → lv_has ls 2 [] → W p l e ({ frames := 0, cells := 0, slots := 0, locals := 0 }) s m ([.ref M.o_Pl, .int p0] : List Value).toArray below meth c H locs 0 0 Q (F0 m 21 ls []) := by
    intro S H locs ls h hP hD hS hl
    rw [f_Pl_isUsed_21] at h
    refine lv_iconst (v := 1) hx hb d_Pl_isUsed_21 (by decide) ?_
    refine lv_goto (tgt := 26) hx hb d_Pl_isUsed_22 (by decide) ?_
    rw [hQ]
    have e1 : (1 : Int32) = r := congrArg Prod.fst (Option.some.inj h)
    have e2 : S = S' := congrArg Prod.snd (Option.some.inj h)
    have hP := ly_newP e2.symm hP
    have hD := ly_newD e2.symm hD
    exact W.zret (v := 1) hx hb hr rfl (fun t ht hW => ⟨⟨1, (), rfl, e1, by rw [ht]; exact hP, va_K.moved hW.alike hK, hD⟩, hS.F ht⟩) hS.2.2 d_Pl_isUsed_26
  rw [f_Pl_isUsed] at h
  refine lv_iload_n hx hb d_Pl_isUsed_0 rfl (lv_at hl 1 rfl) ?_
  refine lv_if_lt (tgt := 21) hx hb d_Pl_isUsed_1 (by decide) (fun c_1 => ?_) (fun c_1 => ?_)
  · have h := lf_t h c_1
    exact hB_21 S _ _ _ h hP hD hS (lv_sub hl [] rfl)
  · have h := lf_f h c_1
    refine lv_iload_n hx hb d_Pl_isUsed_4 rfl (lv_at hl 1 rfl) ?_
    refine lv_aload_n hx hb d_Pl_isUsed_5 rfl (lv_at hl 0 rfl) ?_
    refine va_get (D := (dC, dI)) (ci := 9) (v := .int S.v_Pl_blocks) (C := R_Pl) (T := F_Pl) (N := 17) hx hb hts (fun w h => u_Vq_Pl w (i_Pl w h)) hown hK hP 7 rfl rfl 3 (by decide) (hts _ (u_Vq_Pl _ k_Pl_14)) (fun _ h9 => h9) rfl d_Pl_isUsed_6 ?_
    refine lv_icmp_ge (tgt := 21) hx hb d_Pl_isUsed_9 (by decide) (fun c_2 => ?_) (fun c_2 => ?_)
    · have h := lf_t h c_2
      exact hB_21 S _ _ _ h hP hD hS (lv_sub hl [] rfl)
    · have h := lf_f h c_2
      refine lv_aload_n hx hb d_Pl_isUsed_12 rfl (lv_at hl 0 rfl) ?_
      refine va_get (D := (dC, dI)) (ci := 9) (v := .ref M.a_Pl_used) (C := R_Pl) (T := F_Pl) (N := 17) hx hb hts (fun w h => u_Vq_Pl w (i_Pl w h)) hown hK hP 7 rfl rfl 5 (by decide) (hts _ (u_Vq_Pl _ k_Pl_16)) (fun _ h9 => h9) rfl d_Pl_isUsed_13 ?_
      refine lv_iload_n hx hb d_Pl_isUsed_16 rfl (lv_at hl 1 rfl) ?_
      obtain ⟨g_3, h⟩ := lf_gE h
      refine va_zald hx hb hK hP 40 1 rfl rfl g_3 d_Pl_isUsed_17 ?_
      refine lv_if_eq (tgt := 25) hx hb d_Pl_isUsed_18 (by decide) (fun c_4 => ?_) (fun c_4 => ?_)
      · have h := lf_t h c_4
        refine lv_iconst (v := 0) hx hb d_Pl_isUsed_25 (by decide) ?_
        rw [hQ]
        have e1 : (0 : Int32) = r := congrArg Prod.fst (Option.some.inj h)
        have e2 : S = S' := congrArg Prod.snd (Option.some.inj h)
        have hP := ly_newP e2.symm hP
        have hD := ly_newD e2.symm hD
        exact W.zret (v := 0) hx hb hr rfl (fun t ht hW => ⟨⟨0, (), rfl, e1, by rw [ht]; exact hP, va_K.moved hW.alike hK, hD⟩, hS.F ht⟩) hS.2.2 d_Pl_isUsed_26
      · have h := lf_f h c_4
        exact hB_21 S _ _ _ h hP hD hS (lv_sub hl [] rfl)
set_option maxHeartbeats 4000000 in
set_option maxRecDepth 100000 in
theorem l_Pl_freeBlocks (l : Launch) (dC : Nat → ClassId) (dI : Nat → Nat → Nat) {K : Nat} {M : CA} {E : (Nat → Prop) → State → Prop} (X : ly_X l dC dI K M E) (sz : Nat) {Y : CT} {G : CG} {S S' : CS} {p0 : Int32} {r : Int32} (h : f_Pl_freeBlocks K G S p0 = some (r, S')) : Met l y_Pl_freeBlocks (.code y_Pl_freeBlocks cb_Pl_freeBlocks 4 (some .int) :: V_Vq) ({ frames := 2, cells := 0, slots := 0, locals := 61 }) (va_Pc [.ref M.o_Pl, .int p0] (fun U => U.heap.size = sz ∧ at_ (dC, dI) (fun _ => True) (wV M Y G S) (tV M) U ∧ E (va_A (wV M Y G S) sz) U)) (va_Qi (fun (r_ : Int32) (u : Unit) => r_ = r) (fun (u : Unit) t => at_ (dC, dI) (va_A (wV M Y G S) sz) (wV M Y G S') (tV M) t) (va_A (wV M Y G S) sz)) 0 0 (va_A (wV M Y G S) sz) := by
  refine Met.ofW (cc := cb_Pl_freeBlocks) (maxL := 4) (ret := (some .int)) (by decide) rfl ?_
  intro p e s m args below meth c s₁ B hml hv
  obtain ⟨rfl, hsz, ⟨hP, hK, hD0⟩, hE⟩ := hv
  have hx := B.exec
  have hb := B.bytes
  have hr := B.returns
  have hts0 := atoms_spec (ws := .code y_Pl_freeBlocks cb_Pl_freeBlocks 4 (some .int) :: V_Vq) B.pre
  have hts : ∀ w ∈ V_Vq, w.before ([.ref M.o_Pl, .int p0] : List Value).toArray s = true := fun w h => hts0 w (List.mem_cons_of_mem _ h)
  have hown : s.vm.findClass R_Pl = some m.cls := findClass_of_methodNamed B.named
  subst hsz
  have hD := hD0.self (sz := s.heap.size)
  generalize hAe : va_A (wV M Y G S) s.heap.size = A at hD hE ⊢
  have hA : ∀ q : Nat, s.heap.size ≤ q → A q := fun q h => by rw [← hAe]; exact Or.inr h
  have hS : va_S A s.heap s.heap [] := va_S.rf
  have hP : va_P (dC, dI) classes (wV M Y G S) s.heap := hP
  have hK : va_K (dC, dI) classes (tV M) s := hK
  have hEw : ∀ (H : Heap) (locs : List Loc), va_S A s.heap H locs → ∀ U : State, U.heap = H → s.WarmedH U.vm → E A U := fun H locs hS U hU hW => X.kept A s U H locs hE hS hU hW
  have hl := lv_entry ([.ref M.o_Pl, .int p0]) (n := 4) (Nat.le_of_ble_eq_true rfl)
  rw [lg_entry_eq]
  generalize (lg_sl ([.ref M.o_Pl, .int p0]) ++ List.replicate (4 - (lg_sl ([.ref M.o_Pl, .int p0])).length) Slot.unset).toArray = ls at hl ⊢
  have hl : lv_has ls 4 [(0, .ref M.o_Pl), (1, .int p0)] := hl
  refine qabs (fun Q hQ => ?_)
  have hB_33 : ∀ (rec_4 : Int32 → Int32 → Int32 → CS → Option (Int32 × CS)) (hr_4 : ∀ (y_1 : Int32) (y_2 : Int32) (y_3 : Int32) (S : CS) (H : Heap) (locs : List Loc) (ls : Array Slot), rec_4 y_1 y_2 y_3 S = some (r, S') → va_P (dC, dI) classes (wV M Y G S) H → va_D A (wV M Y G S) → va_S A s.heap H locs → lv_has ls 4 [(0, .ref M.o_Pl), (1, .int y_1), (2, .int y_2), (3, .int y_3)] → W p l e ({ frames := 2, cells := 0, slots := 0, locals := 61 }) s m ([.ref M.o_Pl, .int p0] : List Value).toArray below meth c H locs 0 0 Q (F0 m 4 ls [])), ∀ (y_1 : Int32) (y_3 : Int32) (z_0 : Int32) (z_1 : Int32) (S : CS) (H : Heap) (locs : List Loc) (ls : Array Slot), f_Pl_freeBlocks_33 K G rec_4 y_1 y_3 z_0 z_1 S = some (r, S') → va_P (dC, dI) classes (wV M Y G S) H → va_D A (wV M Y G S) → va_S A s.heap H locs → lv_has ls 4 [(0, .ref M.o_Pl), (1, .int y_1), (3, .int y_3)] → W p l e ({ frames := 2, cells := 0, slots := 0, locals := 61 }) s m ([.ref M.o_Pl, .int p0] : List Value).toArray below meth c H locs 0 0 Q (F0 m 33 ls [.int z_1, .int z_0]) := by
    intro rec_4 hr_4 y_1 y_3 z_0 z_1 S H locs ls h hP hD hS hl
    rw [f_Pl_freeBlocks_33] at h
    refine lv_iadd hx hb d_Pl_freeBlocks_33 ?_
    refine lv_topi (fun x_6 ex_6 => ?_)
    have h := lf_lE h ex_6
    refine lv_istore_n (lv' := [(2, .int x_6), (0, .ref M.o_Pl), (1, .int y_1), (3, .int y_3)]) hx hb d_Pl_freeBlocks_34 rfl hl (by decide) rfl (fun ls hl => ?_)
    obtain ⟨x_7, ex_7, h⟩ := lf_lX h
    refine lv_iinc (v := x_7) (lv' := [(3, .int x_7), (2, .int x_6), (0, .ref M.o_Pl), (1, .int y_1)]) hx hb d_Pl_freeBlocks_35 hl (k := 3) rfl (by rw [ex_7]; rfl) (by decide) rfl (fun ls hl => ?_)
    refine lv_goto (tgt := 4) hx hb d_Pl_freeBlocks_38 (by decide) ?_
    exact hr_4 y_1 x_6 x_7 S _ _ _ h hP hD hS (lv_sub hl [2, 3, 1, 0] rfl)
  have hB_4 : ∀ (k : Nat), ∀ (y_1 : Int32) (y_2 : Int32) (y_3 : Int32) (S : CS) (H : Heap) (locs : List Loc) (ls : Array Slot), f_Pl_freeBlocks_4 K G k y_1 y_2 y_3 S = some (r, S') → va_P (dC, dI) classes (wV M Y G S) H → va_D A (wV M Y G S) → va_S A s.heap H locs → lv_has ls 4 [(0, .ref M.o_Pl), (1, .int y_1), (2, .int y_2), (3, .int y_3)] → W p l e ({ frames := 2, cells := 0, slots := 0, locals := 61 }) s m ([.ref M.o_Pl, .int p0] : List Value).toArray below meth c H locs 0 0 Q (F0 m 4 ls []) := by
    intro k
    induction k with
    | zero => intro y_1 y_2 y_3 S H locs ls h; exact lf_no h
    | succ k hr_4 =>
      intro y_1 y_2 y_3 S H locs ls h hP hD hS hl
      rw [f_Pl_freeBlocks_4] at h
      refine lv_iload_n hx hb d_Pl_freeBlocks_4 rfl (lv_at hl 3 rfl) ?_
      refine lv_aload_n hx hb d_Pl_freeBlocks_5 rfl (lv_at hl 0 rfl) ?_
      refine lv_iload_n hx hb d_Pl_freeBlocks_6 rfl (lv_at hl 1 rfl) ?_
      obtain ⟨r_1, S_1, hc_1, h⟩ := lf_cE h
      have hFc := lx_free hD hS hA
      refine va_calli (va_runV (As := [.int y_1]) (rest := [.int y_3]) ⟨hx, hb, hml, hown, hts⟩ (l_Pl_blocksOf l dC dI X _ hc_1) (cwV 1 hts (gwV good_Vq (u_Vq_Pl _ k_Pl_40) (u_Vq_Pl _ k_Pl_41) (u_Vq_Pl _ k_Pl_42) (u_Vq_Pl _ k_Pl_0) (wcs (u_Vq_Pl _ k_Pl_43) (fun _ h => h))) rfl rfl rfl (by decide +kernel) ⟨Nat.le_of_ble_eq_true rfl, Nat.le_of_ble_eq_true rfl⟩) (pv_ofE (X.same _) (fun U z1 z2 => X.mono _ _ U hFc (hEw _ _ hS U z1 z2)) hP hK hD (va_recv hK hP (ci := 9) (q0 := 7) rfl rfl)) rfl rfl hl.1 rfl (lv_room (Nat.le_of_ble_eq_true rfl)) d_Pl_freeBlocks_7 ⟨by decide, by decide⟩) hS (fun q _ h => hFc q h) hFc (fun r_ u t H locs ht hvm hw hB hz1 hk1 hS => ?_)
      rw [hw]
      obtain ⟨hP, -, hD⟩ := hB
      rw [ht] at hP
      have hD := lx_dj hD hFc
      refine lv_icmp_ge (tgt := 41) hx hb d_Pl_freeBlocks_10 (by decide) (fun c_2 => ?_) (fun c_2 => ?_)
      · have h := lf_t h c_2
        refine lv_iload_n hx hb d_Pl_freeBlocks_41 rfl (lv_at hl 2 rfl) ?_
        rw [hQ]
        have e1 : y_2 = r := congrArg Prod.fst (Option.some.inj h)
        have e2 : S_1 = S' := congrArg Prod.snd (Option.some.inj h)
        have hP := ly_newP e2.symm hP
        have hD := ly_newD e2.symm hD
        exact W.iret (v := y_2) hx hb hr (fun t ht hW => ⟨⟨y_2, (), rfl, e1, by rw [ht]; exact hP, va_K.moved hW.alike hK, hD⟩, hS.F ht⟩) hS.2.2 d_Pl_freeBlocks_42
      · have h := lf_f h c_2
        refine lv_iload_n hx hb d_Pl_freeBlocks_13 rfl (lv_at hl 2 rfl) ?_
        refine lv_aload_n hx hb d_Pl_freeBlocks_14 rfl (lv_at hl 0 rfl) ?_
        refine lv_aload_n hx hb d_Pl_freeBlocks_15 rfl (lv_at hl 0 rfl) ?_
        refine lv_iload_n hx hb d_Pl_freeBlocks_16 rfl (lv_at hl 1 rfl) ?_
        obtain ⟨r_3, S_3, hc_3, h⟩ := lf_cE h
        have hFc := lx_free hD hS hA
        refine va_calli (va_runV (As := [.int y_1]) (rest := [.ref M.o_Pl, .int y_2]) ⟨hx, hb, hml, hown, hts⟩ (l_Pl_firstBlock l dC dI X _ hc_3) (cwV 1 hts (gwV good_Vq (u_Vq_Pl _ k_Pl_44) (u_Vq_Pl _ k_Pl_45) (u_Vq_Pl _ k_Pl_46) (u_Vq_Pl _ k_Pl_0) (wcs (u_Vq_Pl _ k_Pl_47) (fun _ h => h))) rfl rfl rfl (by decide +kernel) ⟨Nat.le_of_ble_eq_true rfl, Nat.le_of_ble_eq_true rfl⟩) (pv_ofE (X.same _) (fun U z1 z2 => X.mono _ _ U hFc (hEw _ _ hS U z1 z2)) hP hK hD (va_recv hK hP (ci := 9) (q0 := 7) rfl rfl)) rfl rfl hl.1 rfl (lv_room (Nat.le_of_ble_eq_true rfl)) d_Pl_freeBlocks_17 ⟨by decide, by decide⟩) hS (fun q _ h => hFc q h) hFc (fun r_ u t H locs ht hvm hw hB hz1 hk1 hS => ?_)
        rw [hw]
        obtain ⟨hP, -, hD⟩ := hB
        rw [ht] at hP
        have hD := lx_dj hD hFc
        refine lv_iload_n hx hb d_Pl_freeBlocks_20 rfl (lv_at hl 3 rfl) ?_
        refine lv_iadd hx hb d_Pl_freeBlocks_21 ?_
        obtain ⟨r_4, S_4, hc_4, h⟩ := lf_cE h
        have hFc := lx_free hD hS hA
        refine va_calli (va_runV (As := [.int (r_3 + y_3)]) (rest := [.int y_2]) ⟨hx, hb, hml, hown, hts⟩ (l_Pl_isUsed l dC dI X _ hc_4) (cwV 1 hts (gwV good_Vq (u_Vq_Pl _ k_Pl_146) (u_Vq_Pl _ k_Pl_147) (u_Vq_Pl _ k_Pl_148) (u_Vq_Pl _ k_Pl_0) (wcs (u_Vq_Pl _ k_Pl_149) (fun _ h => h))) rfl rfl rfl (by decide +kernel) ⟨Nat.le_of_ble_eq_true rfl, Nat.le_of_ble_eq_true rfl⟩) (pv_ofE (X.same _) (fun U z1 z2 => X.mono _ _ U hFc (hEw _ _ hS U z1 z2)) hP hK hD (va_recv hK hP (ci := 9) (q0 := 7) rfl rfl)) rfl rfl hl.1 rfl (lv_room (Nat.le_of_ble_eq_true rfl)) d_Pl_freeBlocks_22 ⟨by decide, by decide⟩) hS (fun q _ h => hFc q h) hFc (fun r_ u t H locs ht hvm hw hB hz1 hk1 hS => ?_)
        rw [hw]
        obtain ⟨hP, -, hD⟩ := hB
        rw [ht] at hP
        have hD := lx_dj hD hFc
        refine lv_if_eq (tgt := 32) hx hb d_Pl_freeBlocks_25 (by decide) (fun c_5 => ?_) (fun c_5 => ?_)
        · have h := lf_t h c_5
          refine lv_iconst (v := 1) hx hb d_Pl_freeBlocks_32 (by decide) ?_
          exact hB_33 _ hr_4 y_1 y_3 y_2 1 S_4 _ _ _ h hP hD hS (lv_sub hl [0, 1, 3] rfl)
        · have h := lf_f h c_5
          refine lv_iconst (v := 0) hx hb d_Pl_freeBlocks_28 (by decide) ?_
          refine lv_goto (tgt := 33) hx hb d_Pl_freeBlocks_29 (by decide) ?_
          exact hB_33 _ hr_4 y_1 y_3 y_2 0 S_4 _ _ _ h hP hD hS (lv_sub hl [0, 1, 3] rfl)
  rw [f_Pl_freeBlocks] at h
  refine lv_iconst (v := 0) hx hb d_Pl_freeBlocks_0 (by decide) ?_
  refine lv_istore_n (lv' := [(2, .int 0), (0, .ref M.o_Pl), (1, .int p0)]) hx hb d_Pl_freeBlocks_1 rfl hl (by decide) rfl (fun ls hl => ?_)
  refine lv_iconst (v := 0) hx hb d_Pl_freeBlocks_2 (by decide) ?_
  refine lv_istore_n (lv' := [(3, .int 0), (2, .int 0), (0, .ref M.o_Pl), (1, .int p0)]) hx hb d_Pl_freeBlocks_3 rfl hl (by decide) rfl (fun ls hl => ?_)
  exact hB_4 K p0 0 0 S _ _ _ h hP hD hS (lv_sub hl [2, 3, 1, 0] rfl)
set_option maxHeartbeats 4000000 in
set_option maxRecDepth 100000 in
theorem l_Pl_mark (l : Launch) (dC : Nat → ClassId) (dI : Nat → Nat → Nat) {K : Nat} {M : CA} {E : (Nat → Prop) → State → Prop} (X : ly_X l dC dI K M E) (sz : Nat) {Y : CT} {G : CG} {S S' : CS} {p0 : Int32} (h : f_Pl_mark K G S p0 = some S') : Met l y_Pl_mark (.code y_Pl_mark cb_Pl_mark 2 none :: V_Vq) ({ frames := 0, cells := 0, slots := 0, locals := 0 }) (va_Pc [.ref M.o_Pl, .int p0] (fun U => U.heap.size = sz ∧ at_ (dC, dI) (fun _ => True) (wV M Y G S) (tV M) U ∧ E (va_A (wV M Y G S) sz) U)) (va_Qv (fun (u : Unit) => True) (fun (u : Unit) t => at_ (dC, dI) (va_A (wV M Y G S) sz) (wV M Y G S') (tV M) t) (va_A (wV M Y G S) sz)) 0 0 (va_A (wV M Y G S) sz) := by
  refine Met.ofW (cc := cb_Pl_mark) (maxL := 2) (ret := none) (by decide) rfl ?_
  intro p e s m args below meth c s₁ B hml hv
  obtain ⟨rfl, hsz, ⟨hP, hK, hD0⟩, hE⟩ := hv
  have hx := B.exec
  have hb := B.bytes
  have hr := B.returns
  have hts0 := atoms_spec (ws := .code y_Pl_mark cb_Pl_mark 2 none :: V_Vq) B.pre
  have hts : ∀ w ∈ V_Vq, w.before ([.ref M.o_Pl, .int p0] : List Value).toArray s = true := fun w h => hts0 w (List.mem_cons_of_mem _ h)
  have hown : s.vm.findClass R_Pl = some m.cls := findClass_of_methodNamed B.named
  subst hsz
  have hD := hD0.self (sz := s.heap.size)
  generalize hAe : va_A (wV M Y G S) s.heap.size = A at hD hE ⊢
  have hA : ∀ q : Nat, s.heap.size ≤ q → A q := fun q h => by rw [← hAe]; exact Or.inr h
  have hS : va_S A s.heap s.heap [] := va_S.rf
  have hP : va_P (dC, dI) classes (wV M Y G S) s.heap := hP
  have hK : va_K (dC, dI) classes (tV M) s := hK
  have hEw : ∀ (H : Heap) (locs : List Loc), va_S A s.heap H locs → ∀ U : State, U.heap = H → s.WarmedH U.vm → E A U := fun H locs hS U hU hW => X.kept A s U H locs hE hS hU hW
  have hl := lv_entry ([.ref M.o_Pl, .int p0]) (n := 2) (Nat.le_of_ble_eq_true rfl)
  rw [lg_entry_eq]
  generalize (lg_sl ([.ref M.o_Pl, .int p0]) ++ List.replicate (2 - (lg_sl ([.ref M.o_Pl, .int p0])).length) Slot.unset).toArray = ls at hl ⊢
  have hl : lv_has ls 2 [(0, .ref M.o_Pl), (1, .int p0)] := hl
  refine qabs (fun Q hQ => ?_)
  rw [f_Pl_mark] at h
  refine lv_iload_n hx hb d_Pl_mark_0 rfl (lv_at hl 1 rfl) ?_
  refine lv_if_lt (tgt := 19) hx hb d_Pl_mark_1 (by decide) (fun c_1 => ?_) (fun c_1 => ?_)
  · have h := lf_t h c_1
    rw [hQ]
    have e2 : S = S' := Option.some.inj h
    have hP := ly_newP e2.symm hP
    have hD := ly_newD e2.symm hD
    exact W.vret hx hb hr (fun t ht hW => ⟨⟨(), rfl, trivial, by rw [ht]; exact hP, va_K.moved hW.alike hK, hD⟩, hS.F ht⟩) hS.2.2 d_Pl_mark_19
  · have h := lf_f h c_1
    refine lv_iload_n hx hb d_Pl_mark_4 rfl (lv_at hl 1 rfl) ?_
    refine lv_aload_n hx hb d_Pl_mark_5 rfl (lv_at hl 0 rfl) ?_
    refine va_get (D := (dC, dI)) (ci := 9) (v := .int S.v_Pl_blocks) (C := R_Pl) (T := F_Pl) (N := 17) hx hb hts (fun w h => u_Vq_Pl w (i_Pl w h)) hown hK hP 7 rfl rfl 3 (by decide) (hts _ (u_Vq_Pl _ k_Pl_14)) (fun _ h9 => h9) rfl d_Pl_mark_6 ?_
    refine lv_icmp_ge (tgt := 19) hx hb d_Pl_mark_9 (by decide) (fun c_2 => ?_) (fun c_2 => ?_)
    · have h := lf_t h c_2
      rw [hQ]
      have e2 : S = S' := Option.some.inj h
      have hP := ly_newP e2.symm hP
      have hD := ly_newD e2.symm hD
      exact W.vret hx hb hr (fun t ht hW => ⟨⟨(), rfl, trivial, by rw [ht]; exact hP, va_K.moved hW.alike hK, hD⟩, hS.F ht⟩) hS.2.2 d_Pl_mark_19
    · have h := lf_f h c_2
      refine lv_aload_n hx hb d_Pl_mark_12 rfl (lv_at hl 0 rfl) ?_
      refine va_get (D := (dC, dI)) (ci := 9) (v := .ref M.a_Pl_used) (C := R_Pl) (T := F_Pl) (N := 17) hx hb hts (fun w h => u_Vq_Pl w (i_Pl w h)) hown hK hP 7 rfl rfl 5 (by decide) (hts _ (u_Vq_Pl _ k_Pl_16)) (fun _ h9 => h9) rfl d_Pl_mark_13 ?_
      refine lv_iload_n hx hb d_Pl_mark_16 rfl (lv_at hl 1 rfl) ?_
      refine lv_iconst (v := 1) hx hb d_Pl_mark_17 (by decide) ?_
      obtain ⟨g_3, h⟩ := lf_gE h
      refine va_zast hx hb hK hP hD hS 40 1 rfl rfl g_3 d_Pl_mark_18 (fun H locs hP hD hS => ?_)
      obtain ⟨S_4, eS_4, h⟩ := lf_lX h
      have hP := ly_newP eS_4 hP
      have hD := ly_newD eS_4 hD
      rw [hQ]
      have e2 : S_4 = S' := Option.some.inj h
      have hP := ly_newP e2.symm hP
      have hD := ly_newD e2.symm hD
      exact W.vret hx hb hr (fun t ht hW => ⟨⟨(), rfl, trivial, by rw [ht]; exact hP, va_K.moved hW.alike hK, hD⟩, hS.F ht⟩) hS.2.2 d_Pl_mark_19
set_option maxHeartbeats 4000000 in
set_option maxRecDepth 100000 in
theorem l_Pl_firstIndirect (l : Launch) (dC : Nat → ClassId) (dI : Nat → Nat → Nat) {K : Nat} {M : CA} {E : (Nat → Prop) → State → Prop} (X : ly_X l dC dI K M E) (sz : Nat) {Y : CT} {G : CG} {S S' : CS} {p0 : Int32} {r : Int32} (h : f_Pl_firstIndirect K G S p0 = some (r, S')) : Met l y_Pl_firstIndirect (.code y_Pl_firstIndirect cb_Pl_firstIndirect 2 (some .int) :: V_Vq) ({ frames := 2, cells := 0, slots := 0, locals := 42 }) (va_Pc [.ref M.o_Pl, .int p0] (fun U => U.heap.size = sz ∧ at_ (dC, dI) (fun _ => True) (wV M Y G S) (tV M) U ∧ E (va_A (wV M Y G S) sz) U)) (va_Qi (fun (r_ : Int32) (u : Unit) => r_ = r) (fun (u : Unit) t => at_ (dC, dI) (va_A (wV M Y G S) sz) (wV M Y G S') (tV M) t) (va_A (wV M Y G S) sz)) 0 0 (va_A (wV M Y G S) sz) := by
  refine Met.ofW (cc := cb_Pl_firstIndirect) (maxL := 2) (ret := (some .int)) (by decide) rfl ?_
  intro p e s m args below meth c s₁ B hml hv
  obtain ⟨rfl, hsz, ⟨hP, hK, hD0⟩, hE⟩ := hv
  have hx := B.exec
  have hb := B.bytes
  have hr := B.returns
  have hts0 := atoms_spec (ws := .code y_Pl_firstIndirect cb_Pl_firstIndirect 2 (some .int) :: V_Vq) B.pre
  have hts : ∀ w ∈ V_Vq, w.before ([.ref M.o_Pl, .int p0] : List Value).toArray s = true := fun w h => hts0 w (List.mem_cons_of_mem _ h)
  have hown : s.vm.findClass R_Pl = some m.cls := findClass_of_methodNamed B.named
  subst hsz
  have hD := hD0.self (sz := s.heap.size)
  generalize hAe : va_A (wV M Y G S) s.heap.size = A at hD hE ⊢
  have hA : ∀ q : Nat, s.heap.size ≤ q → A q := fun q h => by rw [← hAe]; exact Or.inr h
  have hS : va_S A s.heap s.heap [] := va_S.rf
  have hP : va_P (dC, dI) classes (wV M Y G S) s.heap := hP
  have hK : va_K (dC, dI) classes (tV M) s := hK
  have hEw : ∀ (H : Heap) (locs : List Loc), va_S A s.heap H locs → ∀ U : State, U.heap = H → s.WarmedH U.vm → E A U := fun H locs hS U hU hW => X.kept A s U H locs hE hS hU hW
  have hl := lv_entry ([.ref M.o_Pl, .int p0]) (n := 2) (Nat.le_of_ble_eq_true rfl)
  rw [lg_entry_eq]
  generalize (lg_sl ([.ref M.o_Pl, .int p0]) ++ List.replicate (2 - (lg_sl ([.ref M.o_Pl, .int p0])).length) Slot.unset).toArray = ls at hl ⊢
  have hl : lv_has ls 2 [(0, .ref M.o_Pl), (1, .int p0)] := hl
  refine qabs (fun Q hQ => ?_)
  rw [f_Pl_firstIndirect] at h
  refine lv_iload_n hx hb d_Pl_firstIndirect_0 rfl (lv_at hl 1 rfl) ?_
  refine lv_iconst (v := (-1)) hx hb d_Pl_firstIndirect_1 (by decide) ?_
  refine lv_icmp_ne (tgt := 7) hx hb d_Pl_firstIndirect_2 (by decide) (fun c_1 => ?_) (fun c_1 => ?_)
  · have h := lf_f h c_1
    refine lv_aload_n hx hb d_Pl_firstIndirect_7 rfl (lv_at hl 0 rfl) ?_
    refine va_get (D := (dC, dI)) (ci := 9) (v := .ref M.o_Tr) (C := R_Pl) (T := F_Pl) (N := 17) hx hb hts (fun w h => u_Vq_Pl w (i_Pl w h)) hown hK hP 7 rfl rfl 2 (by decide) (hts _ (u_Vq_Pl _ k_Pl_13)) (fun _ h9 => h9) rfl d_Pl_firstIndirect_8 ?_
    refine lv_iload_n hx hb d_Pl_firstIndirect_11 rfl (lv_at hl 1 rfl) ?_
    obtain ⟨r_2, S_2, hc_2, h⟩ := lf_cE h
    have hFc := lx_free hD hS hA
    refine va_calli (va_runV (As := [.int p0]) (rest := []) ⟨hx, hb, hml, hown, hts⟩ (l_Tr_isDirectory l dC dI X _ hc_2) (cwV 1 hts (gwV good_Vq (u_Vq_Pl _ k_Pl_102) (u_Vq_Tr _ k_Tr_42) (u_Vq_Tr _ k_Tr_43) (u_Vq_Tr _ k_Tr_0) (wcs (u_Vq_Tr _ k_Tr_44) (fun _ h => h))) rfl rfl rfl (by decide +kernel) ⟨Nat.le_of_ble_eq_true rfl, Nat.le_of_ble_eq_true rfl⟩) (pv_ofE (X.same _) (fun U z1 z2 => X.mono _ _ U hFc (hEw _ _ hS U z1 z2)) hP hK hD (va_recv hK hP (ci := 5) (q0 := 4) rfl rfl)) rfl rfl hl.1 rfl (lv_room (Nat.le_of_ble_eq_true rfl)) d_Pl_firstIndirect_12 ⟨by decide, by decide⟩) hS (fun q _ h => hFc q h) hFc (fun r_ u t H locs ht hvm hw hB hz1 hk1 hS => ?_)
    rw [hw]
    obtain ⟨hP, -, hD⟩ := hB
    rw [ht] at hP
    have hD := lx_dj hD hFc
    refine lv_if_eq (tgt := 34) hx hb d_Pl_firstIndirect_15 (by decide) (fun c_3 => ?_) (fun c_3 => ?_)
    · have h := lf_t h c_3
      refine lv_aload_n hx hb d_Pl_firstIndirect_34 rfl (lv_at hl 0 rfl) ?_
      refine va_get (D := (dC, dI)) (ci := 9) (v := .ref M.o_Tr) (C := R_Pl) (T := F_Pl) (N := 17) hx hb hts (fun w h => u_Vq_Pl w (i_Pl w h)) hown hK hP 7 rfl rfl 2 (by decide) (hts _ (u_Vq_Pl _ k_Pl_13)) (fun _ h9 => h9) rfl d_Pl_firstIndirect_35 ?_
      refine lv_iload_n hx hb d_Pl_firstIndirect_38 rfl (lv_at hl 1 rfl) ?_
      obtain ⟨r_4, S_4, hc_4, h⟩ := lf_cE h
      have hFc := lx_free hD hS hA
      refine va_calli (va_runV (As := [.int p0]) (rest := []) ⟨hx, hb, hml, hown, hts⟩ (l_Tr_builtOf l dC dI X _ hc_4) (cwV 1 hts (gwV good_Vq (u_Vq_Pl _ k_Pl_94) (u_Vq_Tr _ k_Tr_85) (u_Vq_Tr _ k_Tr_86) (u_Vq_Tr _ k_Tr_0) (wcs (u_Vq_Tr _ k_Tr_87) (fun _ h => h))) rfl rfl rfl (by decide +kernel) ⟨Nat.le_of_ble_eq_true rfl, Nat.le_of_ble_eq_true rfl⟩) (pv_ofE (X.same _) (fun U z1 z2 => X.mono _ _ U hFc (hEw _ _ hS U z1 z2)) hP hK hD (va_recv hK hP (ci := 5) (q0 := 4) rfl rfl)) rfl rfl hl.1 rfl (lv_room (Nat.le_of_ble_eq_true rfl)) d_Pl_firstIndirect_39 ⟨by decide, by decide⟩) hS (fun q _ h => hFc q h) hFc (fun r_ u t H locs ht hvm hw hB hz1 hk1 hS => ?_)
      rw [hw]
      obtain ⟨hP, -, hD⟩ := hB
      rw [ht] at hP
      have hD := lx_dj hD hFc
      rw [hQ]
      have e1 : r_4 = r := congrArg Prod.fst (Option.some.inj h)
      have e2 : S_4 = S' := congrArg Prod.snd (Option.some.inj h)
      have hP := ly_newP e2.symm hP
      have hD := ly_newD e2.symm hD
      exact W.iret (v := r_4) hx hb hr (fun t ht hW => ⟨⟨r_4, (), rfl, e1, by rw [ht]; exact hP, va_K.moved hW.alike hK, hD⟩, hS.F ht⟩) hS.2.2 d_Pl_firstIndirect_42
    · have h := lf_f h c_3
      refine lv_aload_n hx hb d_Pl_firstIndirect_18 rfl (lv_at hl 0 rfl) ?_
      refine va_get (D := (dC, dI)) (ci := 9) (v := .ref M.o_Tr) (C := R_Pl) (T := F_Pl) (N := 17) hx hb hts (fun w h => u_Vq_Pl w (i_Pl w h)) hown hK hP 7 rfl rfl 2 (by decide) (hts _ (u_Vq_Pl _ k_Pl_13)) (fun _ h9 => h9) rfl d_Pl_firstIndirect_19 ?_
      refine lv_iload_n hx hb d_Pl_firstIndirect_22 rfl (lv_at hl 1 rfl) ?_
      obtain ⟨r_5, S_5, hc_5, h⟩ := lf_cE h
      have hFc := lx_free hD hS hA
      refine va_calli (va_runV (As := [.int p0]) (rest := []) ⟨hx, hb, hml, hown, hts⟩ (l_Tr_builtOf l dC dI X _ hc_5) (cwV 1 hts (gwV good_Vq (u_Vq_Pl _ k_Pl_94) (u_Vq_Tr _ k_Tr_85) (u_Vq_Tr _ k_Tr_86) (u_Vq_Tr _ k_Tr_0) (wcs (u_Vq_Tr _ k_Tr_87) (fun _ h => h))) rfl rfl rfl (by decide +kernel) ⟨Nat.le_of_ble_eq_true rfl, Nat.le_of_ble_eq_true rfl⟩) (pv_ofE (X.same _) (fun U z1 z2 => X.mono _ _ U hFc (hEw _ _ hS U z1 z2)) hP hK hD (va_recv hK hP (ci := 5) (q0 := 4) rfl rfl)) rfl rfl hl.1 rfl (lv_room (Nat.le_of_ble_eq_true rfl)) d_Pl_firstIndirect_23 ⟨by decide, by decide⟩) hS (fun q _ h => hFc q h) hFc (fun r_ u t H locs ht hvm hw hB hz1 hk1 hS => ?_)
      rw [hw]
      obtain ⟨hP, -, hD⟩ := hB
      rw [ht] at hP
      have hD := lx_dj hD hFc
      refine lv_aload_n hx hb d_Pl_firstIndirect_26 rfl (lv_at hl 0 rfl) ?_
      refine va_get (D := (dC, dI)) (ci := 9) (v := .int S_5.v_Pl_listed) (C := R_Pl) (T := F_Pl) (N := 17) hx hb hts (fun w h => u_Vq_Pl w (i_Pl w h)) hown hK hP 7 rfl rfl 10 (by decide) (hts _ (u_Vq_Pl _ k_Pl_21)) (fun _ h9 => h9) rfl d_Pl_firstIndirect_27 ?_
      refine lv_iadd hx hb d_Pl_firstIndirect_30 ?_
      refine lv_goto (tgt := 42) hx hb d_Pl_firstIndirect_31 (by decide) ?_
      rw [hQ]
      have e1 : (r_5 + S_5.v_Pl_listed) = r := congrArg Prod.fst (Option.some.inj h)
      have e2 : S_5 = S' := congrArg Prod.snd (Option.some.inj h)
      have hP := ly_newP e2.symm hP
      have hD := ly_newD e2.symm hD
      exact W.iret (v := (r_5 + S_5.v_Pl_listed)) hx hb hr (fun t ht hW => ⟨⟨(r_5 + S_5.v_Pl_listed), (), rfl, e1, by rw [ht]; exact hP, va_K.moved hW.alike hK, hD⟩, hS.F ht⟩) hS.2.2 d_Pl_firstIndirect_42
  · have h := lf_t h c_1
    refine lv_iconst (v := 3) hx hb d_Pl_firstIndirect_5 (by decide) ?_
    rw [hQ]
    have e1 : (3 : Int32) = r := congrArg Prod.fst (Option.some.inj h)
    have e2 : S = S' := congrArg Prod.snd (Option.some.inj h)
    have hP := ly_newP e2.symm hP
    have hD := ly_newD e2.symm hD
    exact W.iret (v := 3) hx hb hr (fun t ht hW => ⟨⟨3, (), rfl, e1, by rw [ht]; exact hP, va_K.moved hW.alike hK, hD⟩, hS.F ht⟩) hS.2.2 d_Pl_firstIndirect_6
set_option maxHeartbeats 4000000 in
set_option maxRecDepth 100000 in
theorem l_Pl_markUsed (l : Launch) (dC : Nat → ClassId) (dI : Nat → Nat → Nat) {K : Nat} {M : CA} {E : (Nat → Prop) → State → Prop} (X : ly_X l dC dI K M E) (sz : Nat) {Y : CT} {G : CG} {S S' : CS} (h : f_Pl_markUsed K G S = some S') : Met l y_Pl_markUsed (.code y_Pl_markUsed cb_Pl_markUsed 4 none :: V_Vq) ({ frames := 3, cells := 0, slots := 0, locals := 84 }) (va_Pc [.ref M.o_Pl] (fun U => U.heap.size = sz ∧ at_ (dC, dI) (fun _ => True) (wV M Y G S) (tV M) U ∧ E (va_A (wV M Y G S) sz) U)) (va_Qv (fun (u : Unit) => True) (fun (u : Unit) t => at_ (dC, dI) (va_A (wV M Y G S) sz) (wV M Y G S') (tV M) t) (va_A (wV M Y G S) sz)) 0 0 (va_A (wV M Y G S) sz) := by
  refine Met.ofW (cc := cb_Pl_markUsed) (maxL := 4) (ret := none) (by decide) rfl ?_
  intro p e s m args below meth c s₁ B hml hv
  obtain ⟨rfl, hsz, ⟨hP, hK, hD0⟩, hE⟩ := hv
  have hx := B.exec
  have hb := B.bytes
  have hr := B.returns
  have hts0 := atoms_spec (ws := .code y_Pl_markUsed cb_Pl_markUsed 4 none :: V_Vq) B.pre
  have hts : ∀ w ∈ V_Vq, w.before ([.ref M.o_Pl] : List Value).toArray s = true := fun w h => hts0 w (List.mem_cons_of_mem _ h)
  have hown : s.vm.findClass R_Pl = some m.cls := findClass_of_methodNamed B.named
  subst hsz
  have hD := hD0.self (sz := s.heap.size)
  generalize hAe : va_A (wV M Y G S) s.heap.size = A at hD hE ⊢
  have hA : ∀ q : Nat, s.heap.size ≤ q → A q := fun q h => by rw [← hAe]; exact Or.inr h
  have hS : va_S A s.heap s.heap [] := va_S.rf
  have hP : va_P (dC, dI) classes (wV M Y G S) s.heap := hP
  have hK : va_K (dC, dI) classes (tV M) s := hK
  have hEw : ∀ (H : Heap) (locs : List Loc), va_S A s.heap H locs → ∀ U : State, U.heap = H → s.WarmedH U.vm → E A U := fun H locs hS U hU hW => X.kept A s U H locs hE hS hU hW
  have hl := lv_entry ([.ref M.o_Pl]) (n := 4) (Nat.le_of_ble_eq_true rfl)
  rw [lg_entry_eq]
  generalize (lg_sl ([.ref M.o_Pl]) ++ List.replicate (4 - (lg_sl ([.ref M.o_Pl])).length) Slot.unset).toArray = ls at hl ⊢
  have hl : lv_has ls 4 [(0, .ref M.o_Pl)] := hl
  refine qabs (fun Q hQ => ?_)
  have hB_82 : ∀ (rec_30 : Int32 → CS → Option (CS)) (hr_30 : ∀ (y_1 : Int32) (S : CS) (H : Heap) (locs : List Loc) (ls : Array Slot), rec_30 y_1 S = some S' → va_P (dC, dI) classes (wV M Y G S) H → va_D A (wV M Y G S) → va_S A s.heap H locs → lv_has ls 4 [(0, .ref M.o_Pl), (1, .int y_1)] → W p l e ({ frames := 3, cells := 0, slots := 0, locals := 84 }) s m ([.ref M.o_Pl] : List Value).toArray below meth c H locs 0 0 Q (F0 m 30 ls [])) (k : Nat), ∀ (y_1 : Int32) (y_2 : Int32) (y_3 : Int32) (S : CS) (H : Heap) (locs : List Loc) (ls : Array Slot), f_Pl_markUsed_82 K G rec_30 k y_1 y_2 y_3 S = some S' → va_P (dC, dI) classes (wV M Y G S) H → va_D A (wV M Y G S) → va_S A s.heap H locs → lv_has ls 4 [(0, .ref M.o_Pl), (1, .int y_1), (2, .int y_2), (3, .int y_3)] → W p l e ({ frames := 3, cells := 0, slots := 0, locals := 84 }) s m ([.ref M.o_Pl] : List Value).toArray below meth c H locs 0 0 Q (F0 m 82 ls []) := by
    intro rec_30 hr_30 k
    induction k with
    | zero => intro y_1 y_2 y_3 S H locs ls h; exact lf_no h
    | succ k hr_82 =>
      intro y_1 y_2 y_3 S H locs ls h hP hD hS hl
      rw [f_Pl_markUsed_82] at h
      refine lv_iload_n hx hb d_Pl_markUsed_82 rfl (lv_at hl 3 rfl) ?_
      refine lv_iload_n hx hb d_Pl_markUsed_83 rfl (lv_at hl 2 rfl) ?_
      refine lv_icmp_ge (tgt := 108) hx hb d_Pl_markUsed_84 (by decide) (fun c_18 => ?_) (fun c_18 => ?_)
      · have h := lf_t h c_18
        obtain ⟨x_19, ex_19, h⟩ := lf_lX h
        refine lv_iinc (v := x_19) (lv' := [(1, .int x_19), (0, .ref M.o_Pl), (2, .int y_2), (3, .int y_3)]) hx hb d_Pl_markUsed_108 hl (k := 1) rfl (by rw [ex_19]; rfl) (by decide) rfl (fun ls hl => ?_)
        refine lv_goto (tgt := 30) hx hb d_Pl_markUsed_111 (by decide) ?_
        exact hr_30 x_19 S _ _ _ h hP hD hS (lv_sub hl [1, 0] rfl)
      · have h := lf_f h c_18
        refine lv_aload_n hx hb d_Pl_markUsed_87 rfl (lv_at hl 0 rfl) ?_
        refine lv_aload_n hx hb d_Pl_markUsed_88 rfl (lv_at hl 0 rfl) ?_
        refine lv_aload_n hx hb d_Pl_markUsed_89 rfl (lv_at hl 0 rfl) ?_
        refine lv_iload_n hx hb d_Pl_markUsed_90 rfl (lv_at hl 1 rfl) ?_
        obtain ⟨r_20, S_20, hc_20, h⟩ := lf_cE h
        have hFc := lx_free hD hS hA
        refine va_calli (va_runV (As := [.int y_1]) (rest := [.ref M.o_Pl, .ref M.o_Pl]) ⟨hx, hb, hml, hown, hts⟩ (l_Pl_firstIndirect l dC dI X _ hc_20) (cwV 1 hts (gwV good_Vq (u_Vq_Pl _ k_Pl_138) (u_Vq_Pl _ k_Pl_139) (u_Vq_Pl _ k_Pl_140) (u_Vq_Pl _ k_Pl_0) (wcs (u_Vq_Pl _ k_Pl_141) (fun _ h => h))) rfl rfl rfl (by decide +kernel) ⟨Nat.le_of_ble_eq_true rfl, Nat.le_of_ble_eq_true rfl⟩) (pv_ofE (X.same _) (fun U z1 z2 => X.mono _ _ U hFc (hEw _ _ hS U z1 z2)) hP hK hD (va_recv hK hP (ci := 9) (q0 := 7) rfl rfl)) rfl rfl hl.1 rfl (lv_room (Nat.le_of_ble_eq_true rfl)) d_Pl_markUsed_91 ⟨by decide, by decide⟩) hS (fun q _ h => hFc q h) hFc (fun r_ u t H locs ht hvm hw hB hz1 hk1 hS => ?_)
        rw [hw]
        obtain ⟨hP, -, hD⟩ := hB
        rw [ht] at hP
        have hD := lx_dj hD hFc
        refine lv_iload_n hx hb d_Pl_markUsed_94 rfl (lv_at hl 3 rfl) ?_
        refine lv_iadd hx hb d_Pl_markUsed_95 ?_
        obtain ⟨r_21, S_21, hc_21, h⟩ := lf_cE h
        have hFc := lx_free hD hS hA
        refine va_calli (va_runV (As := [.int (r_20 + y_3)]) (rest := [.ref M.o_Pl]) ⟨hx, hb, hml, hown, hts⟩ (l_Pl_room l dC dI X _ hc_21) (cwV 1 hts (gwV good_Vq (u_Vq_Pl _ k_Pl_95) (u_Vq_Pl _ k_Pl_96) (u_Vq_Pl _ k_Pl_97) (u_Vq_Pl _ k_Pl_0) (wcs (u_Vq_Pl _ k_Pl_98) (fun _ h => h))) rfl rfl rfl (by decide +kernel) ⟨Nat.le_of_ble_eq_true rfl, Nat.le_of_ble_eq_true rfl⟩) (pv_ofE (X.same _) (fun U z1 z2 => X.mono _ _ U hFc (hEw _ _ hS U z1 z2)) hP hK hD (va_recv hK hP (ci := 9) (q0 := 7) rfl rfl)) rfl rfl hl.1 rfl (lv_room (Nat.le_of_ble_eq_true rfl)) d_Pl_markUsed_96 ⟨by decide, by decide⟩) hS (fun q _ h => hFc q h) hFc (fun r_ u t H locs ht hvm hw hB hz1 hk1 hS => ?_)
        rw [hw]
        obtain ⟨hP, -, hD⟩ := hB
        rw [ht] at hP
        have hD := lx_dj hD hFc
        obtain ⟨S_22, hc_22, h⟩ := lf_bE h
        have hFc := lx_free hD hS hA
        refine va_callv (va_runV (As := [.int r_21]) (rest := []) ⟨hx, hb, hml, hown, hts⟩ (l_Pl_mark l dC dI X _ hc_22) (cwV 1 hts (gwV good_Vq (u_Vq_Pl _ k_Pl_135) (u_Vq_Pl _ k_Pl_136) (u_Vq_Pl _ k_Pl_179) (u_Vq_Pl _ k_Pl_0) (wcs (u_Vq_Pl _ k_Pl_137) (fun _ h => h))) rfl rfl rfl (by decide +kernel) ⟨Nat.le_of_ble_eq_true rfl, Nat.le_of_ble_eq_true rfl⟩) (pv_ofE (X.same _) (fun U z1 z2 => X.mono _ _ U hFc (hEw _ _ hS U z1 z2)) hP hK hD (va_recv hK hP (ci := 9) (q0 := 7) rfl rfl)) rfl rfl hl.1 rfl (lv_room (Nat.le_of_ble_eq_true rfl)) d_Pl_markUsed_99 ⟨by decide, by decide⟩) hS (fun q _ h => hFc q h) hFc (fun u t H locs ht hvm hw hB hz1 hk1 hS => ?_)
        obtain ⟨hP, -, hD⟩ := hB
        rw [ht] at hP
        have hD := lx_dj hD hFc
        obtain ⟨x_23, ex_23, h⟩ := lf_lX h
        refine lv_iinc (v := x_23) (lv' := [(3, .int x_23), (0, .ref M.o_Pl), (1, .int y_1), (2, .int y_2)]) hx hb d_Pl_markUsed_102 hl (k := 3) rfl (by rw [ex_23]; rfl) (by decide) rfl (fun ls hl => ?_)
        refine lv_goto (tgt := 82) hx hb d_Pl_markUsed_105 (by decide) ?_
        exact hr_82 y_1 y_2 x_23 S_22 _ _ _ h hP hD hS (lv_sub hl [1, 2, 3, 0] rfl)
  have hB_48 : ∀ (rec_30 : Int32 → CS → Option (CS)) (hr_30 : ∀ (y_1 : Int32) (S : CS) (H : Heap) (locs : List Loc) (ls : Array Slot), rec_30 y_1 S = some S' → va_P (dC, dI) classes (wV M Y G S) H → va_D A (wV M Y G S) → va_S A s.heap H locs → lv_has ls 4 [(0, .ref M.o_Pl), (1, .int y_1)] → W p l e ({ frames := 3, cells := 0, slots := 0, locals := 84 }) s m ([.ref M.o_Pl] : List Value).toArray below meth c H locs 0 0 Q (F0 m 30 ls [])) (k : Nat), ∀ (y_1 : Int32) (y_2 : Int32) (S : CS) (H : Heap) (locs : List Loc) (ls : Array Slot), f_Pl_markUsed_48 K G rec_30 k y_1 y_2 S = some S' → va_P (dC, dI) classes (wV M Y G S) H → va_D A (wV M Y G S) → va_S A s.heap H locs → lv_has ls 4 [(0, .ref M.o_Pl), (1, .int y_1), (2, .int y_2)] → W p l e ({ frames := 3, cells := 0, slots := 0, locals := 84 }) s m ([.ref M.o_Pl] : List Value).toArray below meth c H locs 0 0 Q (F0 m 48 ls []) := by
    intro rec_30 hr_30 k
    induction k with
    | zero => intro y_1 y_2 S H locs ls h; exact lf_no h
    | succ k hr_48 =>
      intro y_1 y_2 S H locs ls h hP hD hS hl
      rw [f_Pl_markUsed_48] at h
      refine lv_iload_n hx hb d_Pl_markUsed_48 rfl (lv_at hl 2 rfl) ?_
      refine lv_aload_n hx hb d_Pl_markUsed_49 rfl (lv_at hl 0 rfl) ?_
      refine va_get (D := (dC, dI)) (ci := 9) (v := .int S.v_Pl_listed) (C := R_Pl) (T := F_Pl) (N := 17) hx hb hts (fun w h => u_Vq_Pl w (i_Pl w h)) hown hK hP 7 rfl rfl 10 (by decide) (hts _ (u_Vq_Pl _ k_Pl_21)) (fun _ h9 => h9) rfl d_Pl_markUsed_50 ?_
      refine lv_icmp_ge (tgt := 72) hx hb d_Pl_markUsed_53 (by decide) (fun c_13 => ?_) (fun c_13 => ?_)
      · have h := lf_t h c_13
        refine lv_aload_n hx hb d_Pl_markUsed_72 rfl (lv_at hl 0 rfl) ?_
        refine va_get (D := (dC, dI)) (ci := 9) (v := .int S.v_Pl_listed) (C := R_Pl) (T := F_Pl) (N := 17) hx hb hts (fun w h => u_Vq_Pl w (i_Pl w h)) hown hK hP 7 rfl rfl 10 (by decide) (hts _ (u_Vq_Pl _ k_Pl_21)) (fun _ h9 => h9) rfl d_Pl_markUsed_73 ?_
        obtain ⟨r_14, hc_14, h⟩ := lf_bE h
        have hFc := lx_free0 hS hA
        refine va_calli (va_runS (As := [.int S.v_Pl_listed]) (rest := []) ⟨hx, hb, hml, hown, hts⟩ (l_Pl_indirects l dC dI  _ hc_14) (va_cwS 1 hts (gwS good_Vq (u_Vq_Pl _ k_Pl_110) (u_Vq_Pl _ k_Pl_111) (u_Vq_Pl _ k_Pl_0) (wcs (u_Vq_Pl _ k_Pl_112) (fun _ h => h))) rfl rfl rfl (by decide +kernel) ⟨Nat.le_of_ble_eq_true rfl, Nat.le_of_ble_eq_true rfl⟩) (ps_of (W := []) (tys := []) (hP.sub (ws' := []) [] rfl) (hK.sub [] rfl) (hD.sub (ws' := []) [] (by decide) rfl)) rfl rfl hl.1 rfl (lv_room (Nat.le_of_ble_eq_true rfl)) d_Pl_markUsed_76 ⟨by decide, by decide⟩) hS (fun q _ h => hFc q h) hFc (fun r_ u t H locs ht hvm hw hB hz1 hk1 hS => ?_)
        rw [hw]
        have hP := lx_stat (A := A) hP hk1
        refine lv_istore_n (lv' := [(2, .int r_14), (0, .ref M.o_Pl), (1, .int y_1)]) hx hb d_Pl_markUsed_79 rfl hl (by decide) rfl (fun ls hl => ?_)
        refine lv_iconst (v := 0) hx hb d_Pl_markUsed_80 (by decide) ?_
        refine lv_istore_n (lv' := [(3, .int 0), (2, .int r_14), (0, .ref M.o_Pl), (1, .int y_1)]) hx hb d_Pl_markUsed_81 rfl hl (by decide) rfl (fun ls hl => ?_)
        exact hB_82 _ hr_30 K y_1 r_14 0 S _ _ _ h hP hD hS (lv_sub hl [2, 3, 1, 0] rfl)
      · have h := lf_f h c_13
        refine lv_aload_n hx hb d_Pl_markUsed_56 rfl (lv_at hl 0 rfl) ?_
        refine lv_aload_n hx hb d_Pl_markUsed_57 rfl (lv_at hl 0 rfl) ?_
        refine va_get (D := (dC, dI)) (ci := 9) (v := .ref M.a_Pl_list) (C := R_Pl) (T := F_Pl) (N := 17) hx hb hts (fun w h => u_Vq_Pl w (i_Pl w h)) hown hK hP 7 rfl rfl 9 (by decide) (hts _ (u_Vq_Pl _ k_Pl_20)) (fun _ h9 => h9) rfl d_Pl_markUsed_58 ?_
        refine lv_iload_n hx hb d_Pl_markUsed_61 rfl (lv_at hl 2 rfl) ?_
        obtain ⟨g_15, h⟩ := lf_gE h
        refine va_iald hx hb hK hP 43 2 rfl rfl g_15 d_Pl_markUsed_62 ?_
        obtain ⟨S_16, hc_16, h⟩ := lf_bE h
        have hFc := lx_free hD hS hA
        refine va_callv (va_runV (As := [.int (S.w_Pl_list y_2.toNatClampNeg)]) (rest := []) ⟨hx, hb, hml, hown, hts⟩ (l_Pl_mark l dC dI X _ hc_16) (cwV 1 hts (gwV good_Vq (u_Vq_Pl _ k_Pl_135) (u_Vq_Pl _ k_Pl_136) (u_Vq_Pl _ k_Pl_179) (u_Vq_Pl _ k_Pl_0) (wcs (u_Vq_Pl _ k_Pl_137) (fun _ h => h))) rfl rfl rfl (by decide +kernel) ⟨Nat.le_of_ble_eq_true rfl, Nat.le_of_ble_eq_true rfl⟩) (pv_ofE (X.same _) (fun U z1 z2 => X.mono _ _ U hFc (hEw _ _ hS U z1 z2)) hP hK hD (va_recv hK hP (ci := 9) (q0 := 7) rfl rfl)) rfl rfl hl.1 rfl (lv_room (Nat.le_of_ble_eq_true rfl)) d_Pl_markUsed_63 ⟨by decide, by decide⟩) hS (fun q _ h => hFc q h) hFc (fun u t H locs ht hvm hw hB hz1 hk1 hS => ?_)
        obtain ⟨hP, -, hD⟩ := hB
        rw [ht] at hP
        have hD := lx_dj hD hFc
        obtain ⟨x_17, ex_17, h⟩ := lf_lX h
        refine lv_iinc (v := x_17) (lv' := [(2, .int x_17), (0, .ref M.o_Pl), (1, .int y_1)]) hx hb d_Pl_markUsed_66 hl (k := 2) rfl (by rw [ex_17]; rfl) (by decide) rfl (fun ls hl => ?_)
        refine lv_goto (tgt := 48) hx hb d_Pl_markUsed_69 (by decide) ?_
        exact hr_48 y_1 x_17 S_16 _ _ _ h hP hD hS (lv_sub hl [1, 2, 0] rfl)
  have hB_121 : ∀ (k : Nat), ∀ (y_1 : Int32) (S : CS) (H : Heap) (locs : List Loc) (ls : Array Slot), f_Pl_markUsed_121 K G k y_1 S = some S' → va_P (dC, dI) classes (wV M Y G S) H → va_D A (wV M Y G S) → va_S A s.heap H locs → lv_has ls 4 [(0, .ref M.o_Pl), (1, .int y_1)] → W p l e ({ frames := 3, cells := 0, slots := 0, locals := 84 }) s m ([.ref M.o_Pl] : List Value).toArray below meth c H locs 0 0 Q (F0 m 121 ls []) := by
    intro k
    induction k with
    | zero => intro y_1 S H locs ls h; exact lf_no h
    | succ k hr_121 =>
      intro y_1 S H locs ls h hP hD hS hl
      rw [f_Pl_markUsed_121] at h
      refine lv_iload_n hx hb d_Pl_markUsed_121 rfl (lv_at hl 1 rfl) ?_
      refine lv_aload_n hx hb d_Pl_markUsed_122 rfl (lv_at hl 0 rfl) ?_
      refine va_get (D := (dC, dI)) (ci := 9) (v := .int S.v_Pl_groups) (C := R_Pl) (T := F_Pl) (N := 17) hx hb hts (fun w h => u_Vq_Pl w (i_Pl w h)) hown hK hP 7 rfl rfl 12 (by decide) (hts _ (u_Vq_Pl _ k_Pl_23)) (fun _ h9 => h9) rfl d_Pl_markUsed_123 ?_
      refine lv_icmp_ge (tgt := 149) hx hb d_Pl_markUsed_126 (by decide) (fun c_9 => ?_) (fun c_9 => ?_)
      · have h := lf_t h c_9
        rw [hQ]
        have e2 : S = S' := Option.some.inj h
        have hP := ly_newP e2.symm hP
        have hD := ly_newD e2.symm hD
        exact W.vret hx hb hr (fun t ht hW => ⟨⟨(), rfl, trivial, by rw [ht]; exact hP, va_K.moved hW.alike hK, hD⟩, hS.F ht⟩) hS.2.2 d_Pl_markUsed_149
      · have h := lf_f h c_9
        refine lv_aload_n hx hb d_Pl_markUsed_129 rfl (lv_at hl 0 rfl) ?_
        refine lv_dup hx hb d_Pl_markUsed_130 rfl ?_
        refine va_get (D := (dC, dI)) (ci := 9) (v := .int S.v_Pl_free) (C := R_Pl) (T := F_Pl) (N := 17) hx hb hts (fun w h => u_Vq_Pl w (i_Pl w h)) hown hK hP 7 rfl rfl 16 (by decide) (hts _ (u_Vq_Pl _ k_Pl_27)) (fun _ h9 => h9) rfl d_Pl_markUsed_131 ?_
        refine lv_aload_n hx hb d_Pl_markUsed_134 rfl (lv_at hl 0 rfl) ?_
        refine lv_iload_n hx hb d_Pl_markUsed_135 rfl (lv_at hl 1 rfl) ?_
        obtain ⟨r_10, S_10, hc_10, h⟩ := lf_cE h
        have hFc := lx_free hD hS hA
        refine va_calli (va_runV (As := [.int y_1]) (rest := [.int S.v_Pl_free, .ref M.o_Pl]) ⟨hx, hb, hml, hown, hts⟩ (l_Pl_freeBlocks l dC dI X _ hc_10) (cwV 1 hts (gwV good_Vq (u_Vq_Pl _ k_Pl_142) (u_Vq_Pl _ k_Pl_143) (u_Vq_Pl _ k_Pl_144) (u_Vq_Pl _ k_Pl_0) (wcs (u_Vq_Pl _ k_Pl_145) (fun _ h => h))) rfl rfl rfl (by decide +kernel) ⟨Nat.le_of_ble_eq_true rfl, Nat.le_of_ble_eq_true rfl⟩) (pv_ofE (X.same _) (fun U z1 z2 => X.mono _ _ U hFc (hEw _ _ hS U z1 z2)) hP hK hD (va_recv hK hP (ci := 9) (q0 := 7) rfl rfl)) rfl rfl hl.1 rfl (lv_room (Nat.le_of_ble_eq_true rfl)) d_Pl_markUsed_136 ⟨by decide, by decide⟩) hS (fun q _ h => hFc q h) hFc (fun r_ u t H locs ht hvm hw hB hz1 hk1 hS => ?_)
        rw [hw]
        obtain ⟨hP, -, hD⟩ := hB
        rw [ht] at hP
        have hD := lx_dj hD hFc
        refine lv_iadd hx hb d_Pl_markUsed_139 ?_
        refine va_put (D := (dC, dI)) (ci := 9) (v := .int (S.v_Pl_free + r_10)) (ty := .int) (C := R_Pl) (T := F_Pl) (N := 17) hx hb hts (fun w h => u_Vq_Pl w (i_Pl w h)) t_Pl t_Pl_ok n_Pl hown hK hP hD hS 7 rfl rfl 16 (by decide) (hts _ (u_Vq_Pl _ k_Pl_27)) (fun _ h9 => h9) rfl (by decide +kernel) rfl rfl (Nat.le_of_ble_eq_true rfl) d_Pl_markUsed_140 (fun H locs hP hD hS => ?_)
        obtain ⟨S_11, eS_11, h⟩ := lf_lX h
        have hP := ly_newP eS_11 hP
        have hD := ly_newD eS_11 hD
        obtain ⟨x_12, ex_12, h⟩ := lf_lX h
        refine lv_iinc (v := x_12) (lv' := [(1, .int x_12), (0, .ref M.o_Pl)]) hx hb d_Pl_markUsed_143 hl (k := 1) rfl (by rw [ex_12]; rfl) (by decide) rfl (fun ls hl => ?_)
        refine lv_goto (tgt := 121) hx hb d_Pl_markUsed_146 (by decide) ?_
        exact hr_121 x_12 S_11 _ _ _ h hP hD hS (lv_sub hl [1, 0] rfl)
  have hB_30 : ∀ (k : Nat), ∀ (y_1 : Int32) (S : CS) (H : Heap) (locs : List Loc) (ls : Array Slot), f_Pl_markUsed_30 K G k y_1 S = some S' → va_P (dC, dI) classes (wV M Y G S) H → va_D A (wV M Y G S) → va_S A s.heap H locs → lv_has ls 4 [(0, .ref M.o_Pl), (1, .int y_1)] → W p l e ({ frames := 3, cells := 0, slots := 0, locals := 84 }) s m ([.ref M.o_Pl] : List Value).toArray below meth c H locs 0 0 Q (F0 m 30 ls []) := by
    intro k
    induction k with
    | zero => intro y_1 S H locs ls h; exact lf_no h
    | succ k hr_30 =>
      intro y_1 S H locs ls h hP hD hS hl
      rw [f_Pl_markUsed_30] at h
      refine lv_iload_n hx hb d_Pl_markUsed_30 rfl (lv_at hl 1 rfl) ?_
      refine lv_aload_n hx hb d_Pl_markUsed_31 rfl (lv_at hl 0 rfl) ?_
      refine va_get (D := (dC, dI)) (ci := 9) (v := .ref M.o_Tr) (C := R_Pl) (T := F_Pl) (N := 17) hx hb hts (fun w h => u_Vq_Pl w (i_Pl w h)) hown hK hP 7 rfl rfl 2 (by decide) (hts _ (u_Vq_Pl _ k_Pl_13)) (fun _ h9 => h9) rfl d_Pl_markUsed_32 ?_
      refine va_get (D := (dC, dI)) (ci := 5) (v := .int S.v_Tr_count) (C := R_Tr) (T := F_Tr) (N := 18) hx hb hts (fun w h => u_Vq_Tr w (i_Tr w h)) hown hK hP 4 rfl rfl 0 (by decide) (hts _ (u_Vq_Pl _ k_Pl_5)) (fun _ h9 => h9) rfl d_Pl_markUsed_35 ?_
      refine lv_icmp_ge (tgt := 114) hx hb d_Pl_markUsed_38 (by decide) (fun c_6 => ?_) (fun c_6 => ?_)
      · have h := lf_t h c_6
        refine lv_aload_n hx hb d_Pl_markUsed_114 rfl (lv_at hl 0 rfl) ?_
        refine lv_iconst (v := 0) hx hb d_Pl_markUsed_115 (by decide) ?_
        refine va_put (D := (dC, dI)) (ci := 9) (v := .int 0) (ty := .int) (C := R_Pl) (T := F_Pl) (N := 17) hx hb hts (fun w h => u_Vq_Pl w (i_Pl w h)) t_Pl t_Pl_ok n_Pl hown hK hP hD hS 7 rfl rfl 16 (by decide) (hts _ (u_Vq_Pl _ k_Pl_27)) (fun _ h9 => h9) rfl (by decide +kernel) rfl rfl (Nat.le_of_ble_eq_true rfl) d_Pl_markUsed_116 (fun H locs hP hD hS => ?_)
        obtain ⟨S_7, eS_7, h⟩ := lf_lX h
        have hP := ly_newP eS_7 hP
        have hD := ly_newD eS_7 hD
        refine lv_iconst (v := 0) hx hb d_Pl_markUsed_119 (by decide) ?_
        refine lv_istore_n (lv' := [(1, .int 0), (0, .ref M.o_Pl)]) hx hb d_Pl_markUsed_120 rfl hl (by decide) rfl (fun ls hl => ?_)
        exact hB_121 K 0 S_7 _ _ _ h hP hD hS (lv_sub hl [1, 0] rfl)
      · have h := lf_f h c_6
        refine lv_aload_n hx hb d_Pl_markUsed_41 rfl (lv_at hl 0 rfl) ?_
        refine lv_iload_n hx hb d_Pl_markUsed_42 rfl (lv_at hl 1 rfl) ?_
        obtain ⟨S_8, hc_8, h⟩ := lf_bE h
        have hFc := lx_free hD hS hA
        refine va_callv (va_runV (As := [.int y_1]) (rest := []) ⟨hx, hb, hml, hown, hts⟩ (l_Pl_gather l dC dI X _ hc_8) (cwV 1 hts (gwV good_Vq (u_Vq_Pl _ k_Pl_89) (u_Vq_Pl _ k_Pl_90) (u_Vq_Pl _ k_Pl_91) (u_Vq_Pl _ k_Pl_0) (wcs (u_Vq_Pl _ k_Pl_92) (fun _ h => h))) rfl rfl rfl (by decide +kernel) ⟨Nat.le_of_ble_eq_true rfl, Nat.le_of_ble_eq_true rfl⟩) (pv_ofE (X.same _) (fun U z1 z2 => X.mono _ _ U hFc (hEw _ _ hS U z1 z2)) hP hK hD (va_recv hK hP (ci := 9) (q0 := 7) rfl rfl)) rfl rfl hl.1 rfl (lv_room (Nat.le_of_ble_eq_true rfl)) d_Pl_markUsed_43 ⟨by decide, by decide⟩) hS (fun q _ h => hFc q h) hFc (fun u t H locs ht hvm hw hB hz1 hk1 hS => ?_)
        obtain ⟨hP, -, hD⟩ := hB
        rw [ht] at hP
        have hD := lx_dj hD hFc
        refine lv_iconst (v := 0) hx hb d_Pl_markUsed_46 (by decide) ?_
        refine lv_istore_n (lv' := [(2, .int 0), (0, .ref M.o_Pl), (1, .int y_1)]) hx hb d_Pl_markUsed_47 rfl hl (by decide) rfl (fun ls hl => ?_)
        exact hB_48 _ hr_30 K y_1 0 S_8 _ _ _ h hP hD hS (lv_sub hl [1, 2, 0] rfl)
  have hB_2 : ∀ (k : Nat), ∀ (y_1 : Int32) (S : CS) (H : Heap) (locs : List Loc) (ls : Array Slot), f_Pl_markUsed_2 K G k y_1 S = some S' → va_P (dC, dI) classes (wV M Y G S) H → va_D A (wV M Y G S) → va_S A s.heap H locs → lv_has ls 4 [(0, .ref M.o_Pl), (1, .int y_1)] → W p l e ({ frames := 3, cells := 0, slots := 0, locals := 84 }) s m ([.ref M.o_Pl] : List Value).toArray below meth c H locs 0 0 Q (F0 m 2 ls []) := by
    intro k
    induction k with
    | zero => intro y_1 S H locs ls h; exact lf_no h
    | succ k hr_2 =>
      intro y_1 S H locs ls h hP hD hS hl
      rw [f_Pl_markUsed_2] at h
      refine lv_iload_n hx hb d_Pl_markUsed_2 rfl (lv_at hl 1 rfl) ?_
      refine lv_aload_n hx hb d_Pl_markUsed_3 rfl (lv_at hl 0 rfl) ?_
      refine va_get (D := (dC, dI)) (ci := 9) (v := .int S.v_Pl_blocks) (C := R_Pl) (T := F_Pl) (N := 17) hx hb hts (fun w h => u_Vq_Pl w (i_Pl w h)) hown hK hP 7 rfl rfl 3 (by decide) (hts _ (u_Vq_Pl _ k_Pl_14)) (fun _ h9 => h9) rfl d_Pl_markUsed_4 ?_
      refine lv_icmp_ge (tgt := 28) hx hb d_Pl_markUsed_7 (by decide) (fun c_1 => ?_) (fun c_1 => ?_)
      · have h := lf_t h c_1
        refine lv_iconst (v := (-1)) hx hb d_Pl_markUsed_28 (by decide) ?_
        refine lv_istore_n (lv' := [(1, .int ((-1))), (0, .ref M.o_Pl)]) hx hb d_Pl_markUsed_29 rfl hl (by decide) rfl (fun ls hl => ?_)
        exact hB_30 K ((-1)) S _ _ _ h hP hD hS (lv_sub hl [1, 0] rfl)
      · have h := lf_f h c_1
        refine lv_aload_n hx hb d_Pl_markUsed_10 rfl (lv_at hl 0 rfl) ?_
        refine va_get (D := (dC, dI)) (ci := 9) (v := .ref M.a_Pl_used) (C := R_Pl) (T := F_Pl) (N := 17) hx hb hts (fun w h => u_Vq_Pl w (i_Pl w h)) hown hK hP 7 rfl rfl 5 (by decide) (hts _ (u_Vq_Pl _ k_Pl_16)) (fun _ h9 => h9) rfl d_Pl_markUsed_11 ?_
        refine lv_iload_n hx hb d_Pl_markUsed_14 rfl (lv_at hl 1 rfl) ?_
        refine lv_aload_n hx hb d_Pl_markUsed_15 rfl (lv_at hl 0 rfl) ?_
        refine va_get (D := (dC, dI)) (ci := 9) (v := .ref M.a_Pl_fixed) (C := R_Pl) (T := F_Pl) (N := 17) hx hb hts (fun w h => u_Vq_Pl w (i_Pl w h)) hown hK hP 7 rfl rfl 4 (by decide) (hts _ (u_Vq_Pl _ k_Pl_15)) (fun _ h9 => h9) rfl d_Pl_markUsed_16 ?_
        refine lv_iload_n hx hb d_Pl_markUsed_19 rfl (lv_at hl 1 rfl) ?_
        obtain ⟨g_2, h⟩ := lf_gE h
        refine va_zald hx hb hK hP 39 1 rfl rfl g_2 d_Pl_markUsed_20 ?_
        obtain ⟨g_3, h⟩ := lf_gE h
        refine va_zast hx hb hK hP hD hS 40 1 rfl rfl g_3 d_Pl_markUsed_21 (fun H locs hP hD hS => ?_)
        obtain ⟨S_4, eS_4, h⟩ := lf_lX h
        have hP := ly_newP eS_4 hP
        have hD := ly_newD eS_4 hD
        obtain ⟨x_5, ex_5, h⟩ := lf_lX h
        refine lv_iinc (v := x_5) (lv' := [(1, .int x_5), (0, .ref M.o_Pl)]) hx hb d_Pl_markUsed_22 hl (k := 1) rfl (by rw [ex_5]; rfl) (by decide) rfl (fun ls hl => ?_)
        refine lv_goto (tgt := 2) hx hb d_Pl_markUsed_25 (by decide) ?_
        exact hr_2 x_5 S_4 _ _ _ h hP hD hS (lv_sub hl [1, 0] rfl)
  rw [f_Pl_markUsed] at h
  refine lv_iconst (v := 0) hx hb d_Pl_markUsed_0 (by decide) ?_
  refine lv_istore_n (lv' := [(1, .int 0), (0, .ref M.o_Pl)]) hx hb d_Pl_markUsed_1 rfl hl (by decide) rfl (fun ls hl => ?_)
  exact hB_2 K 0 S _ _ _ h hP hD hS (lv_sub hl [1, 0] rfl)
set_option maxHeartbeats 4000000 in
set_option maxRecDepth 100000 in
theorem l_Pl_refusal (l : Launch) (dC : Nat → ClassId) (dI : Nat → Nat → Nat) {K : Nat} {M : CA} {E : (Nat → Prop) → State → Prop} (X : ly_X l dC dI K M E) (sz : Nat) {Y : CT} {G : CG} {S S' : CS} {p0 : Int32} {p1 : Int32} {r : Int32} (h : f_Pl_refusal K G S p0 p1 = some (r, S')) : Met l y_Pl_refusal (.code y_Pl_refusal cb_Pl_refusal 3 (some .int) :: V_Vq) ({ frames := 10, cells := 0, slots := 0, locals := 289 }) (va_Pc [.ref M.o_Pl, .int p0, .int p1] (fun U => U.heap.size = sz ∧ at_ (dC, dI) (fun _ => True) (wV M Y G S) (tV M) U ∧ E (va_A (wV M Y G S) sz) U)) (va_Qi (fun (r_ : Int32) (u : Unit) => r_ = r) (fun (u : Unit) t => at_ (dC, dI) (va_A (wV M Y G S) sz) (wV M Y G S') (tV M) t) (va_A (wV M Y G S) sz)) 0 0 (va_A (wV M Y G S) sz) := by
  refine Met.ofW (cc := cb_Pl_refusal) (maxL := 3) (ret := (some .int)) (by decide) rfl ?_
  intro p e s m args below meth c s₁ B hml hv
  obtain ⟨rfl, hsz, ⟨hP, hK, hD0⟩, hE⟩ := hv
  have hx := B.exec
  have hb := B.bytes
  have hr := B.returns
  have hts0 := atoms_spec (ws := .code y_Pl_refusal cb_Pl_refusal 3 (some .int) :: V_Vq) B.pre
  have hts : ∀ w ∈ V_Vq, w.before ([.ref M.o_Pl, .int p0, .int p1] : List Value).toArray s = true := fun w h => hts0 w (List.mem_cons_of_mem _ h)
  have hown : s.vm.findClass R_Pl = some m.cls := findClass_of_methodNamed B.named
  subst hsz
  have hD := hD0.self (sz := s.heap.size)
  generalize hAe : va_A (wV M Y G S) s.heap.size = A at hD hE ⊢
  have hA : ∀ q : Nat, s.heap.size ≤ q → A q := fun q h => by rw [← hAe]; exact Or.inr h
  have hS : va_S A s.heap s.heap [] := va_S.rf
  have hP : va_P (dC, dI) classes (wV M Y G S) s.heap := hP
  have hK : va_K (dC, dI) classes (tV M) s := hK
  have hEw : ∀ (H : Heap) (locs : List Loc), va_S A s.heap H locs → ∀ U : State, U.heap = H → s.WarmedH U.vm → E A U := fun H locs hS U hU hW => X.kept A s U H locs hE hS hU hW
  have hl := lv_entry ([.ref M.o_Pl, .int p0, .int p1]) (n := 3) (Nat.le_of_ble_eq_true rfl)
  rw [lg_entry_eq]
  generalize (lg_sl ([.ref M.o_Pl, .int p0, .int p1]) ++ List.replicate (3 - (lg_sl ([.ref M.o_Pl, .int p0, .int p1])).length) Slot.unset).toArray = ls at hl ⊢
  have hl : lv_has ls 3 [(0, .ref M.o_Pl), (1, .int p0), (2, .int p1)] := hl
  refine qabs (fun Q hQ => ?_)
  have hB_40 : ∀ (S : CS) (H : Heap) (locs : List Loc) (ls : Array Slot), f_Pl_refusal_40 K G S = some (r, S') → va_P (dC, dI) classes (wV M Y G S) H → va_D A (wV M Y G S) → va_S A s.heap H locs → lv_has ls 3 [] → W p l e ({ frames := 10, cells := 0, slots := 0, locals := 289 }) s m ([.ref M.o_Pl, .int p0, .int p1] : List Value).toArray below meth c H locs 0 0 Q (F0 m 40 ls []) := by
    intro S H locs ls h hP hD hS hl
    rw [f_Pl_refusal_40] at h
    refine lv_bipush (v := 12) hx hb d_Pl_refusal_40 (by decide) ?_
    rw [hQ]
    have e1 : (12 : Int32) = r := congrArg Prod.fst (Option.some.inj h)
    have e2 : S = S' := congrArg Prod.snd (Option.some.inj h)
    have hP := ly_newP e2.symm hP
    have hD := ly_newD e2.symm hD
    exact W.iret (v := 12) hx hb hr (fun t ht hW => ⟨⟨12, (), rfl, e1, by rw [ht]; exact hP, va_K.moved hW.alike hK, hD⟩, hS.F ht⟩) hS.2.2 d_Pl_refusal_42
  have hB_77 : ∀ (S : CS) (H : Heap) (locs : List Loc) (ls : Array Slot), f_Pl_refusal_77 K G S = some (r, S') → va_P (dC, dI) classes (wV M Y G S) H → va_D A (wV M Y G S) → va_S A s.heap H locs → lv_has ls 3 [] → W p l e ({ frames := 10, cells := 0, slots := 0, locals := 289 }) s m ([.ref M.o_Pl, .int p0, .int p1] : List Value).toArray below meth c H locs 0 0 Q (F0 m 77 ls []) := by
    intro S H locs ls h hP hD hS hl
    rw [f_Pl_refusal_77] at h
    refine lv_bipush (v := 15) hx hb d_Pl_refusal_77 (by decide) ?_
    rw [hQ]
    have e1 : (15 : Int32) = r := congrArg Prod.fst (Option.some.inj h)
    have e2 : S = S' := congrArg Prod.snd (Option.some.inj h)
    have hP := ly_newP e2.symm hP
    have hD := ly_newD e2.symm hD
    exact W.iret (v := 15) hx hb hr (fun t ht hW => ⟨⟨15, (), rfl, e1, by rw [ht]; exact hP, va_K.moved hW.alike hK, hD⟩, hS.F ht⟩) hS.2.2 d_Pl_refusal_79
  rw [f_Pl_refusal] at h
  refine lv_iload_n hx hb d_Pl_refusal_0 rfl (lv_at hl 2 rfl) ?_
  refine lv_if_eq (tgt := 6) hx hb d_Pl_refusal_1 (by decide) (fun c_1 => ?_) (fun c_1 => ?_)
  · have h := lf_t h c_1
    refine lv_aload_n hx hb d_Pl_refusal_6 rfl (lv_at hl 0 rfl) ?_
    refine va_get (D := (dC, dI)) (ci := 9) (v := .ref M.o_Tb) (C := R_Pl) (T := F_Pl) (N := 17) hx hb hts (fun w h => u_Vq_Pl w (i_Pl w h)) hown hK hP 7 rfl rfl 1 (by decide) (hts _ (u_Vq_Pl _ k_Pl_12)) (fun _ h9 => h9) rfl d_Pl_refusal_7 ?_
    refine va_get (D := (dC, dI)) (ci := 4) (v := .int S.v_Tb_start) (C := R_Tb) (T := F_Tb) (N := 10) hx hb hts (fun w h => u_Vq_Tb w (i_Tb w h)) hown hK hP 3 rfl rfl 6 (by decide) (hts _ (u_Vq_Pl _ k_Pl_3)) (fun _ h9 => h9) rfl d_Pl_refusal_10 ?_
    refine lv_iconst (v := 2) hx hb d_Pl_refusal_13 (by decide) ?_
    refine lv_irem hx hb d_Pl_refusal_14 (by decide) ?_
    refine lv_if_eq (tgt := 21) hx hb d_Pl_refusal_15 (by decide) (fun c_2 => ?_) (fun c_2 => ?_)
    · have h := lf_t h c_2
      refine lv_aload_n hx hb d_Pl_refusal_21 rfl (lv_at hl 0 rfl) ?_
      refine lv_iload_n hx hb d_Pl_refusal_22 rfl (lv_at hl 1 rfl) ?_
      obtain ⟨r_3, S_3, hc_3, h⟩ := lf_cE h
      have hFc := lx_free hD hS hA
      refine va_calli (va_runV (As := [.int p0]) (rest := []) ⟨hx, hb, hml, hown, hts⟩ (l_Pl_divide l dC dI X _ hc_3) (cwV 1 hts (gwV good_Vq (u_Vq_Pl _ k_Pl_31) (u_Vq_Pl _ k_Pl_32) (u_Vq_Pl _ k_Pl_165) (u_Vq_Pl _ k_Pl_0) (wcs (u_Vq_Pl _ k_Pl_33) (fun _ h => h))) rfl rfl rfl (by decide +kernel) ⟨Nat.le_of_ble_eq_true rfl, Nat.le_of_ble_eq_true rfl⟩) (pv_ofE (X.same _) (fun U z1 z2 => X.mono _ _ U hFc (hEw _ _ hS U z1 z2)) hP hK hD (va_recv hK hP (ci := 9) (q0 := 7) rfl rfl)) rfl rfl hl.1 rfl (lv_room (Nat.le_of_ble_eq_true rfl)) d_Pl_refusal_23 ⟨by decide, by decide⟩) hS (fun q _ h => hFc q h) hFc (fun r_ u t H locs ht hvm hw hB hz1 hk1 hS => ?_)
      rw [hw]
      obtain ⟨hP, -, hD⟩ := hB
      rw [ht] at hP
      have hD := lx_dj hD hFc
      refine lv_if_eq (tgt := 40) hx hb d_Pl_refusal_26 (by decide) (fun c_4 => ?_) (fun c_4 => ?_)
      · have h := lf_t h c_4
        exact hB_40 S_3 _ _ _ h hP hD hS (lv_sub hl [] rfl)
      · have h := lf_f h c_4
        refine lv_aload_n hx hb d_Pl_refusal_29 rfl (lv_at hl 0 rfl) ?_
        refine lv_aload_n hx hb d_Pl_refusal_30 rfl (lv_at hl 0 rfl) ?_
        obtain ⟨r_5, S_5, hc_5, h⟩ := lf_cE h
        have hFc := lx_free hD hS hA
        refine va_calli (va_runV (As := []) (rest := [.ref M.o_Pl]) ⟨hx, hb, hml, hown, hts⟩ (l_Pl_leastInodes l dC dI X _ hc_5) (cwV 0 hts (gwV good_Vq (u_Vq_Pl _ k_Pl_34) (u_Vq_Pl _ k_Pl_35) (u_Vq_Pl _ k_Pl_166) (u_Vq_Pl _ k_Pl_0) (wcs (u_Vq_Pl _ k_Pl_36) (fun _ h => h))) rfl rfl rfl (by decide +kernel) ⟨Nat.le_of_ble_eq_true rfl, Nat.le_of_ble_eq_true rfl⟩) (pv_ofE (X.same _) (fun U z1 z2 => X.mono _ _ U hFc (hEw _ _ hS U z1 z2)) hP hK hD (va_recv hK hP (ci := 9) (q0 := 7) rfl rfl)) rfl rfl hl.1 rfl (lv_room (Nat.le_of_ble_eq_true rfl)) d_Pl_refusal_31 ⟨by decide, by decide⟩) hS (fun q _ h => hFc q h) hFc (fun r_ u t H locs ht hvm hw hB hz1 hk1 hS => ?_)
        rw [hw]
        obtain ⟨hP, -, hD⟩ := hB
        rw [ht] at hP
        have hD := lx_dj hD hFc
        obtain ⟨r_6, S_6, hc_6, h⟩ := lf_cE h
        have hFc := lx_free hD hS hA
        refine va_calli (va_runV (As := [.int r_5]) (rest := []) ⟨hx, hb, hml, hown, hts⟩ (l_Pl_layOut l dC dI X _ hc_6) (cwV 1 hts (gwV good_Vq (u_Vq_Pl _ k_Pl_37) (u_Vq_Pl _ k_Pl_38) (u_Vq_Pl _ k_Pl_167) (u_Vq_Pl _ k_Pl_0) (wcs (u_Vq_Pl _ k_Pl_39) (fun _ h => h))) rfl rfl rfl (by decide +kernel) ⟨Nat.le_of_ble_eq_true rfl, Nat.le_of_ble_eq_true rfl⟩) (pv_ofE (X.same _) (fun U z1 z2 => X.mono _ _ U hFc (hEw _ _ hS U z1 z2)) hP hK hD (va_recv hK hP (ci := 9) (q0 := 7) rfl rfl)) rfl rfl hl.1 rfl (lv_room (Nat.le_of_ble_eq_true rfl)) d_Pl_refusal_34 ⟨by decide, by decide⟩) hS (fun q _ h => hFc q h) hFc (fun r_ u t H locs ht hvm hw hB hz1 hk1 hS => ?_)
        rw [hw]
        obtain ⟨hP, -, hD⟩ := hB
        rw [ht] at hP
        have hD := lx_dj hD hFc
        refine lv_if_ne (tgt := 43) hx hb d_Pl_refusal_37 (by decide) (fun c_7 => ?_) (fun c_7 => ?_)
        · have h := lf_f h c_7
          refine lv_aload_n hx hb d_Pl_refusal_43 rfl (lv_at hl 0 rfl) ?_
          obtain ⟨r_8, S_8, hc_8, h⟩ := lf_cE h
          have hFc := lx_free hD hS hA
          refine va_calli (va_runV (As := []) (rest := []) ⟨hx, hb, hml, hown, hts⟩ (l_Pl_namesFit l dC dI X _ hc_8) (cwV 0 hts (gwV good_Vq (u_Vq_Pl _ k_Pl_56) (u_Vq_Pl _ k_Pl_57) (u_Vq_Pl _ k_Pl_169) (u_Vq_Pl _ k_Pl_0) (wcs (u_Vq_Pl _ k_Pl_58) (fun _ h => h))) rfl rfl rfl (by decide +kernel) ⟨Nat.le_of_ble_eq_true rfl, Nat.le_of_ble_eq_true rfl⟩) (pv_ofE (X.same _) (fun U z1 z2 => X.mono _ _ U hFc (hEw _ _ hS U z1 z2)) hP hK hD (va_recv hK hP (ci := 9) (q0 := 7) rfl rfl)) rfl rfl hl.1 rfl (lv_room (Nat.le_of_ble_eq_true rfl)) d_Pl_refusal_44 ⟨by decide, by decide⟩) hS (fun q _ h => hFc q h) hFc (fun r_ u t H locs ht hvm hw hB hz1 hk1 hS => ?_)
          rw [hw]
          obtain ⟨hP, -, hD⟩ := hB
          rw [ht] at hP
          have hD := lx_dj hD hFc
          refine lv_if_ne (tgt := 53) hx hb d_Pl_refusal_47 (by decide) (fun c_9 => ?_) (fun c_9 => ?_)
          · have h := lf_f h c_9
            refine lv_aload_n hx hb d_Pl_refusal_53 rfl (lv_at hl 0 rfl) ?_
            obtain ⟨r_10, S_10, hc_10, h⟩ := lf_cE h
            have hFc := lx_free hD hS hA
            refine va_calli (va_runV (As := []) (rest := []) ⟨hx, hb, hml, hown, hts⟩ (l_Pl_timesFit l dC dI X _ hc_10) (cwV 0 hts (gwV good_Vq (u_Vq_Pl _ k_Pl_62) (u_Vq_Pl _ k_Pl_63) (u_Vq_Pl _ k_Pl_170) (u_Vq_Pl _ k_Pl_0) (wcs (u_Vq_Pl _ k_Pl_64) (fun _ h => h))) rfl rfl rfl (by decide +kernel) ⟨Nat.le_of_ble_eq_true rfl, Nat.le_of_ble_eq_true rfl⟩) (pv_ofE (X.same _) (fun U z1 z2 => X.mono _ _ U hFc (hEw _ _ hS U z1 z2)) hP hK hD (va_recv hK hP (ci := 9) (q0 := 7) rfl rfl)) rfl rfl hl.1 rfl (lv_room (Nat.le_of_ble_eq_true rfl)) d_Pl_refusal_54 ⟨by decide, by decide⟩) hS (fun q _ h => hFc q h) hFc (fun r_ u t H locs ht hvm hw hB hz1 hk1 hS => ?_)
            rw [hw]
            obtain ⟨hP, -, hD⟩ := hB
            rw [ht] at hP
            have hD := lx_dj hD hFc
            refine lv_if_ne (tgt := 63) hx hb d_Pl_refusal_57 (by decide) (fun c_11 => ?_) (fun c_11 => ?_)
            · have h := lf_f h c_11
              refine lv_aload_n hx hb d_Pl_refusal_63 rfl (lv_at hl 0 rfl) ?_
              obtain ⟨r_12, S_12, hc_12, h⟩ := lf_cE h
              have hFc := lx_free hD hS hA
              refine va_calli (va_runV (As := []) (rest := []) ⟨hx, hb, hml, hown, hts⟩ (l_Pl_aim l dC dI X _ hc_12) (cwV 0 hts (gwV good_Vq (u_Vq_Pl _ k_Pl_68) (u_Vq_Pl _ k_Pl_69) (u_Vq_Pl _ k_Pl_173) (u_Vq_Pl _ k_Pl_0) (wcs (u_Vq_Pl _ k_Pl_70) (fun _ h => h))) rfl rfl rfl (by decide +kernel) ⟨Nat.le_of_ble_eq_true rfl, Nat.le_of_ble_eq_true rfl⟩) (pv_ofE (X.same _) (fun U z1 z2 => X.mono _ _ U hFc (hEw _ _ hS U z1 z2)) hP hK hD (va_recv hK hP (ci := 9) (q0 := 7) rfl rfl)) rfl rfl hl.1 rfl (lv_room (Nat.le_of_ble_eq_true rfl)) d_Pl_refusal_64 ⟨by decide, by decide⟩) hS (fun q _ h => hFc q h) hFc (fun r_ u t H locs ht hvm hw hB hz1 hk1 hS => ?_)
              rw [hw]
              obtain ⟨hP, -, hD⟩ := hB
              rw [ht] at hP
              have hD := lx_dj hD hFc
              refine lv_if_eq (tgt := 77) hx hb d_Pl_refusal_67 (by decide) (fun c_13 => ?_) (fun c_13 => ?_)
              · have h := lf_t h c_13
                exact hB_77 S_12 _ _ _ h hP hD hS (lv_sub hl [] rfl)
              · have h := lf_f h c_13
                refine lv_aload_n hx hb d_Pl_refusal_70 rfl (lv_at hl 0 rfl) ?_
                obtain ⟨r_14, S_14, hc_14, h⟩ := lf_cE h
                have hFc := lx_free hD hS hA
                refine va_calli (va_runV (As := []) (rest := []) ⟨hx, hb, hml, hown, hts⟩ (l_Pl_assign l dC dI X _ hc_14) (cwV 0 hts (gwV good_Vq (u_Vq_Pl _ k_Pl_85) (u_Vq_Pl _ k_Pl_86) (u_Vq_Pl _ k_Pl_87) (u_Vq_Pl _ k_Pl_0) (wcs (u_Vq_Pl _ k_Pl_88) (fun _ h => h))) rfl rfl rfl (by decide +kernel) ⟨Nat.le_of_ble_eq_true rfl, Nat.le_of_ble_eq_true rfl⟩) (pv_ofE (X.same _) (fun U z1 z2 => X.mono _ _ U hFc (hEw _ _ hS U z1 z2)) hP hK hD (va_recv hK hP (ci := 9) (q0 := 7) rfl rfl)) rfl rfl hl.1 rfl (lv_room (Nat.le_of_ble_eq_true rfl)) d_Pl_refusal_71 ⟨by decide, by decide⟩) hS (fun q _ h => hFc q h) hFc (fun r_ u t H locs ht hvm hw hB hz1 hk1 hS => ?_)
                rw [hw]
                obtain ⟨hP, -, hD⟩ := hB
                rw [ht] at hP
                have hD := lx_dj hD hFc
                refine lv_if_ne (tgt := 80) hx hb d_Pl_refusal_74 (by decide) (fun c_15 => ?_) (fun c_15 => ?_)
                · have h := lf_f h c_15
                  refine lv_aload_n hx hb d_Pl_refusal_80 rfl (lv_at hl 0 rfl) ?_
                  obtain ⟨S_16, hc_16, h⟩ := lf_bE h
                  have hFc := lx_free hD hS hA
                  refine va_callv (va_runV (As := []) (rest := []) ⟨hx, hb, hml, hown, hts⟩ (l_Pl_markUsed l dC dI X _ hc_16) (cwV 0 hts (gwV good_Vq (u_Vq_Pl _ k_Pl_131) (u_Vq_Pl _ k_Pl_132) (u_Vq_Pl _ k_Pl_133) (u_Vq_Pl _ k_Pl_0) (wcs (u_Vq_Pl _ k_Pl_134) (fun _ h => h))) rfl rfl rfl (by decide +kernel) ⟨Nat.le_of_ble_eq_true rfl, Nat.le_of_ble_eq_true rfl⟩) (pv_ofE (X.same _) (fun U z1 z2 => X.mono _ _ U hFc (hEw _ _ hS U z1 z2)) hP hK hD (va_recv hK hP (ci := 9) (q0 := 7) rfl rfl)) rfl rfl hl.1 rfl (lv_room (Nat.le_of_ble_eq_true rfl)) d_Pl_refusal_81 ⟨by decide, by decide⟩) hS (fun q _ h => hFc q h) hFc (fun u t H locs ht hvm hw hB hz1 hk1 hS => ?_)
                  obtain ⟨hP, -, hD⟩ := hB
                  rw [ht] at hP
                  have hD := lx_dj hD hFc
                  refine lv_iconst (v := 0) hx hb d_Pl_refusal_84 (by decide) ?_
                  rw [hQ]
                  have e1 : (0 : Int32) = r := congrArg Prod.fst (Option.some.inj h)
                  have e2 : S_16 = S' := congrArg Prod.snd (Option.some.inj h)
                  have hP := ly_newP e2.symm hP
                  have hD := ly_newD e2.symm hD
                  exact W.iret (v := 0) hx hb hr (fun t ht hW => ⟨⟨0, (), rfl, e1, by rw [ht]; exact hP, va_K.moved hW.alike hK, hD⟩, hS.F ht⟩) hS.2.2 d_Pl_refusal_85
                · have h := lf_t h c_15
                  exact hB_77 S_14 _ _ _ h hP hD hS (lv_sub hl [] rfl)
            · have h := lf_t h c_11
              refine lv_bipush (v := 14) hx hb d_Pl_refusal_60 (by decide) ?_
              rw [hQ]
              have e1 : (14 : Int32) = r := congrArg Prod.fst (Option.some.inj h)
              have e2 : S_10 = S' := congrArg Prod.snd (Option.some.inj h)
              have hP := ly_newP e2.symm hP
              have hD := ly_newD e2.symm hD
              exact W.iret (v := 14) hx hb hr (fun t ht hW => ⟨⟨14, (), rfl, e1, by rw [ht]; exact hP, va_K.moved hW.alike hK, hD⟩, hS.F ht⟩) hS.2.2 d_Pl_refusal_62
          · have h := lf_t h c_9
            refine lv_bipush (v := 13) hx hb d_Pl_refusal_50 (by decide) ?_
            rw [hQ]
            have e1 : (13 : Int32) = r := congrArg Prod.fst (Option.some.inj h)
            have e2 : S_8 = S' := congrArg Prod.snd (Option.some.inj h)
            have hP := ly_newP e2.symm hP
            have hD := ly_newD e2.symm hD
            exact W.iret (v := 13) hx hb hr (fun t ht hW => ⟨⟨13, (), rfl, e1, by rw [ht]; exact hP, va_K.moved hW.alike hK, hD⟩, hS.F ht⟩) hS.2.2 d_Pl_refusal_52
        · have h := lf_t h c_7
          exact hB_40 S_6 _ _ _ h hP hD hS (lv_sub hl [] rfl)
    · have h := lf_f h c_2
      refine lv_bipush (v := 11) hx hb d_Pl_refusal_18 (by decide) ?_
      rw [hQ]
      have e1 : (11 : Int32) = r := congrArg Prod.fst (Option.some.inj h)
      have e2 : S = S' := congrArg Prod.snd (Option.some.inj h)
      have hP := ly_newP e2.symm hP
      have hD := ly_newD e2.symm hD
      exact W.iret (v := 11) hx hb hr (fun t ht hW => ⟨⟨11, (), rfl, e1, by rw [ht]; exact hP, va_K.moved hW.alike hK, hD⟩, hS.F ht⟩) hS.2.2 d_Pl_refusal_20
  · have h := lf_f h c_1
    refine lv_iload_n hx hb d_Pl_refusal_4 rfl (lv_at hl 2 rfl) ?_
    rw [hQ]
    have e1 : p1 = r := congrArg Prod.fst (Option.some.inj h)
    have e2 : S = S' := congrArg Prod.snd (Option.some.inj h)
    have hP := ly_newP e2.symm hP
    have hD := ly_newD e2.symm hD
    exact W.iret (v := p1) hx hb hr (fun t ht hW => ⟨⟨p1, (), rfl, e1, by rw [ht]; exact hP, va_K.moved hW.alike hK, hD⟩, hS.F ht⟩) hS.2.2 d_Pl_refusal_5
set_option maxHeartbeats 4000000 in
set_option maxRecDepth 100000 in
theorem l_Pl_number (l : Launch) (dC : Nat → ClassId) (dI : Nat → Nat → Nat) {K : Nat} {M : CA} {E : (Nat → Prop) → State → Prop} (X : ly_X l dC dI K M E) (sz : Nat) {Y : CT} {G : CG} {S S' : CS} {p0 : Int32} {r : Int32} (h : f_Pl_number K G S p0 = some (r, S')) : Met l y_Pl_number (.code y_Pl_number cb_Pl_number 2 (some .int) :: V_Vq) ({ frames := 0, cells := 0, slots := 0, locals := 0 }) (va_Pc [.ref M.o_Pl, .int p0] (fun U => U.heap.size = sz ∧ at_ (dC, dI) (fun _ => True) (wV M Y G S) (tV M) U ∧ E (va_A (wV M Y G S) sz) U)) (va_Qi (fun (r_ : Int32) (u : Unit) => r_ = r) (fun (u : Unit) t => at_ (dC, dI) (va_A (wV M Y G S) sz) (wV M Y G S') (tV M) t) (va_A (wV M Y G S) sz)) 0 0 (va_A (wV M Y G S) sz) := by
  refine Met.ofW (cc := cb_Pl_number) (maxL := 2) (ret := (some .int)) (by decide) rfl ?_
  intro p e s m args below meth c s₁ B hml hv
  obtain ⟨rfl, hsz, ⟨hP, hK, hD0⟩, hE⟩ := hv
  have hx := B.exec
  have hb := B.bytes
  have hr := B.returns
  have hts0 := atoms_spec (ws := .code y_Pl_number cb_Pl_number 2 (some .int) :: V_Vq) B.pre
  have hts : ∀ w ∈ V_Vq, w.before ([.ref M.o_Pl, .int p0] : List Value).toArray s = true := fun w h => hts0 w (List.mem_cons_of_mem _ h)
  have hown : s.vm.findClass R_Pl = some m.cls := findClass_of_methodNamed B.named
  subst hsz
  have hD := hD0.self (sz := s.heap.size)
  generalize hAe : va_A (wV M Y G S) s.heap.size = A at hD hE ⊢
  have hA : ∀ q : Nat, s.heap.size ≤ q → A q := fun q h => by rw [← hAe]; exact Or.inr h
  have hS : va_S A s.heap s.heap [] := va_S.rf
  have hP : va_P (dC, dI) classes (wV M Y G S) s.heap := hP
  have hK : va_K (dC, dI) classes (tV M) s := hK
  have hEw : ∀ (H : Heap) (locs : List Loc), va_S A s.heap H locs → ∀ U : State, U.heap = H → s.WarmedH U.vm → E A U := fun H locs hS U hU hW => X.kept A s U H locs hE hS hU hW
  have hl := lv_entry ([.ref M.o_Pl, .int p0]) (n := 2) (Nat.le_of_ble_eq_true rfl)
  rw [lg_entry_eq]
  generalize (lg_sl ([.ref M.o_Pl, .int p0]) ++ List.replicate (2 - (lg_sl ([.ref M.o_Pl, .int p0])).length) Slot.unset).toArray = ls at hl ⊢
  have hl : lv_has ls 2 [(0, .ref M.o_Pl), (1, .int p0)] := hl
  refine qabs (fun Q hQ => ?_)
  rw [f_Pl_number] at h
  refine lv_iload_n hx hb d_Pl_number_0 rfl (lv_at hl 1 rfl) ?_
  by_cases c_1 : p0 = 1
  · have h := lf_t h c_1
    refine lv_tableIn (tgt := 36) hx hb d_Pl_number_1 (by rw [c_1]; decide) (by rw [c_1]; decide) (by rw [c_1]; (try rfl)) (by decide) ?_
    refine lv_aload_n hx hb d_Pl_number_36 rfl (lv_at hl 0 rfl) ?_
    refine va_get (D := (dC, dI)) (ci := 9) (v := .int S.v_Pl_groups) (C := R_Pl) (T := F_Pl) (N := 17) hx hb hts (fun w h => u_Vq_Pl w (i_Pl w h)) hown hK hP 7 rfl rfl 12 (by decide) (hts _ (u_Vq_Pl _ k_Pl_23)) (fun _ h9 => h9) rfl d_Pl_number_37 ?_
    rw [hQ]
    have e1 : S.v_Pl_groups = r := congrArg Prod.fst (Option.some.inj h)
    have e2 : S = S' := congrArg Prod.snd (Option.some.inj h)
    have hP := ly_newP e2.symm hP
    have hD := ly_newD e2.symm hD
    exact W.iret (v := S.v_Pl_groups) hx hb hr (fun t ht hW => ⟨⟨S.v_Pl_groups, (), rfl, e1, by rw [ht]; exact hP, va_K.moved hW.alike hK, hD⟩, hS.F ht⟩) hS.2.2 d_Pl_number_40
  · have h := lf_f h c_1
    by_cases c_2 : p0 = 2
    · have h := lf_t h c_2
      refine lv_tableIn (tgt := 41) hx hb d_Pl_number_1 (by rw [c_2]; decide) (by rw [c_2]; decide) (by rw [c_2]; (try rfl)) (by decide) ?_
      refine lv_aload_n hx hb d_Pl_number_41 rfl (lv_at hl 0 rfl) ?_
      refine va_get (D := (dC, dI)) (ci := 9) (v := .int S.v_Pl_inodes) (C := R_Pl) (T := F_Pl) (N := 17) hx hb hts (fun w h => u_Vq_Pl w (i_Pl w h)) hown hK hP 7 rfl rfl 13 (by decide) (hts _ (u_Vq_Pl _ k_Pl_24)) (fun _ h9 => h9) rfl d_Pl_number_42 ?_
      rw [hQ]
      have e1 : S.v_Pl_inodes = r := congrArg Prod.fst (Option.some.inj h)
      have e2 : S = S' := congrArg Prod.snd (Option.some.inj h)
      have hP := ly_newP e2.symm hP
      have hD := ly_newD e2.symm hD
      exact W.iret (v := S.v_Pl_inodes) hx hb hr (fun t ht hW => ⟨⟨S.v_Pl_inodes, (), rfl, e1, by rw [ht]; exact hP, va_K.moved hW.alike hK, hD⟩, hS.F ht⟩) hS.2.2 d_Pl_number_45
    · have h := lf_f h c_2
      by_cases c_3 : p0 = 3
      · have h := lf_t h c_3
        refine lv_tableIn (tgt := 46) hx hb d_Pl_number_1 (by rw [c_3]; decide) (by rw [c_3]; decide) (by rw [c_3]; (try rfl)) (by decide) ?_
        refine lv_aload_n hx hb d_Pl_number_46 rfl (lv_at hl 0 rfl) ?_
        refine va_get (D := (dC, dI)) (ci := 9) (v := .int S.v_Pl_groups) (C := R_Pl) (T := F_Pl) (N := 17) hx hb hts (fun w h => u_Vq_Pl w (i_Pl w h)) hown hK hP 7 rfl rfl 12 (by decide) (hts _ (u_Vq_Pl _ k_Pl_23)) (fun _ h9 => h9) rfl d_Pl_number_47 ?_
        refine lv_iconst (v := 4) hx hb d_Pl_number_50 (by decide) ?_
        refine lv_aload_n hx hb d_Pl_number_51 rfl (lv_at hl 0 rfl) ?_
        refine va_get (D := (dC, dI)) (ci := 9) (v := .int S.v_Pl_inodes) (C := R_Pl) (T := F_Pl) (N := 17) hx hb hts (fun w h => u_Vq_Pl w (i_Pl w h)) hown hK hP 7 rfl rfl 13 (by decide) (hts _ (u_Vq_Pl _ k_Pl_24)) (fun _ h9 => h9) rfl d_Pl_number_52 ?_
        refine lv_bipush (v := 8) hx hb d_Pl_number_55 (by decide) ?_
        refine lv_idiv hx hb d_Pl_number_57 (by decide) ?_
        refine lv_iadd hx hb d_Pl_number_58 ?_
        refine lv_imul hx hb d_Pl_number_59 ?_
        rw [hQ]
        have e1 : (S.v_Pl_groups * (4 + (S.v_Pl_inodes / 8))) = r := congrArg Prod.fst (Option.some.inj h)
        have e2 : S = S' := congrArg Prod.snd (Option.some.inj h)
        have hP := ly_newP e2.symm hP
        have hD := ly_newD e2.symm hD
        exact W.iret (v := (S.v_Pl_groups * (4 + (S.v_Pl_inodes / 8)))) hx hb hr (fun t ht hW => ⟨⟨(S.v_Pl_groups * (4 + (S.v_Pl_inodes / 8))), (), rfl, e1, by rw [ht]; exact hP, va_K.moved hW.alike hK, hD⟩, hS.F ht⟩) hS.2.2 d_Pl_number_60
      · have h := lf_f h c_3
        by_cases c_4 : p0 = 4
        · have h := lf_t h c_4
          refine lv_tableIn (tgt := 61) hx hb d_Pl_number_1 (by rw [c_4]; decide) (by rw [c_4]; decide) (by rw [c_4]; (try rfl)) (by decide) ?_
          refine lv_aload_n hx hb d_Pl_number_61 rfl (lv_at hl 0 rfl) ?_
          refine va_get (D := (dC, dI)) (ci := 9) (v := .int S.v_Pl_moves) (C := R_Pl) (T := F_Pl) (N := 17) hx hb hts (fun w h => u_Vq_Pl w (i_Pl w h)) hown hK hP 7 rfl rfl 14 (by decide) (hts _ (u_Vq_Pl _ k_Pl_25)) (fun _ h9 => h9) rfl d_Pl_number_62 ?_
          rw [hQ]
          have e1 : S.v_Pl_moves = r := congrArg Prod.fst (Option.some.inj h)
          have e2 : S = S' := congrArg Prod.snd (Option.some.inj h)
          have hP := ly_newP e2.symm hP
          have hD := ly_newD e2.symm hD
          exact W.iret (v := S.v_Pl_moves) hx hb hr (fun t ht hW => ⟨⟨S.v_Pl_moves, (), rfl, e1, by rw [ht]; exact hP, va_K.moved hW.alike hK, hD⟩, hS.F ht⟩) hS.2.2 d_Pl_number_65
        · have h := lf_f h c_4
          by_cases c_5 : p0 = 5
          · have h := lf_t h c_5
            refine lv_tableIn (tgt := 66) hx hb d_Pl_number_1 (by rw [c_5]; decide) (by rw [c_5]; decide) (by rw [c_5]; (try rfl)) (by decide) ?_
            refine lv_aload_n hx hb d_Pl_number_66 rfl (lv_at hl 0 rfl) ?_
            refine va_get (D := (dC, dI)) (ci := 9) (v := .int S.v_Pl_built) (C := R_Pl) (T := F_Pl) (N := 17) hx hb hts (fun w h => u_Vq_Pl w (i_Pl w h)) hown hK hP 7 rfl rfl 15 (by decide) (hts _ (u_Vq_Pl _ k_Pl_26)) (fun _ h9 => h9) rfl d_Pl_number_67 ?_
            rw [hQ]
            have e1 : S.v_Pl_built = r := congrArg Prod.fst (Option.some.inj h)
            have e2 : S = S' := congrArg Prod.snd (Option.some.inj h)
            have hP := ly_newP e2.symm hP
            have hD := ly_newD e2.symm hD
            exact W.iret (v := S.v_Pl_built) hx hb hr (fun t ht hW => ⟨⟨S.v_Pl_built, (), rfl, e1, by rw [ht]; exact hP, va_K.moved hW.alike hK, hD⟩, hS.F ht⟩) hS.2.2 d_Pl_number_70
          · have h := lf_f h c_5
            refine lv_tableOut (tgt := 71) hx hb d_Pl_number_1 (by have n0 := lv_neT (a := 1) c_1 (by decide); have n1 := lv_neT (a := 2) c_2 (by decide); have n2 := lv_neT (a := 3) c_3 (by decide); have n3 := lv_neT (a := 4) c_4 (by decide); have n4 := lv_neT (a := 5) c_5 (by decide); omega) (by decide) ?_
            refine lv_aload_n hx hb d_Pl_number_71 rfl (lv_at hl 0 rfl) ?_
            refine va_get (D := (dC, dI)) (ci := 9) (v := .int S.v_Pl_free) (C := R_Pl) (T := F_Pl) (N := 17) hx hb hts (fun w h => u_Vq_Pl w (i_Pl w h)) hown hK hP 7 rfl rfl 16 (by decide) (hts _ (u_Vq_Pl _ k_Pl_27)) (fun _ h9 => h9) rfl d_Pl_number_72 ?_
            rw [hQ]
            have e1 : S.v_Pl_free = r := congrArg Prod.fst (Option.some.inj h)
            have e2 : S = S' := congrArg Prod.snd (Option.some.inj h)
            have hP := ly_newP e2.symm hP
            have hD := ly_newD e2.symm hD
            exact W.iret (v := S.v_Pl_free) hx hb hr (fun t ht hW => ⟨⟨S.v_Pl_free, (), rfl, e1, by rw [ht]; exact hP, va_K.moved hW.alike hK, hD⟩, hS.F ht⟩) hS.2.2 d_Pl_number_75
