set_option maxHeartbeats 4000000 in
set_option maxRecDepth 100000 in
theorem l_Tb_read (l : Launch) (dC : Nat → ClassId) (dI : Nat → Nat → Nat) {K : Nat} {M : CA} {E : (Nat → Prop) → State → Prop} (X : ly_X l dC dI K M E) (sz : Nat) {Y : CT} {G : CG} {S S' : CS} {r : Int32} (h : f_Tb_read K G S = some (r, S')) : Met l y_Tb_read (.code y_Tb_read cb_Tb_read 8 (some .boolean) :: V_Vq) ({ frames := 2, cells := 0, slots := 0, locals := 41 }) (va_Pc [.ref M.o_Tb] (fun U => U.heap.size = sz ∧ at_ (dC, dI) (fun _ => True) (wV M Y G S) (tV M) U ∧ E (va_A (wV M Y G S) sz) U)) (va_Qi (fun (r_ : Int32) (u : Unit) => r_ = r) (fun (u : Unit) t => at_ (dC, dI) (va_A (wV M Y G S) sz) (wV M Y G S') (tV M) t) (va_A (wV M Y G S) sz)) 0 0 (va_A (wV M Y G S) sz) := by
  refine Met.ofW (cc := cb_Tb_read) (maxL := 8) (ret := (some .boolean)) (by decide) rfl ?_
  intro p e s m args below meth c s₁ B hml hv
  obtain ⟨rfl, hsz, ⟨hP, hK, hD0⟩, hE⟩ := hv
  have hx := B.exec
  have hb := B.bytes
  have hr := B.returns
  have hts0 := atoms_spec (ws := .code y_Tb_read cb_Tb_read 8 (some .boolean) :: V_Vq) B.pre
  have hts : ∀ w ∈ V_Vq, w.before ([.ref M.o_Tb] : List Value).toArray s = true := fun w h => hts0 w (List.mem_cons_of_mem _ h)
  have hown : s.vm.findClass R_Tb = some m.cls := findClass_of_methodNamed B.named
  subst hsz
  have hD := hD0.self (sz := s.heap.size)
  generalize hAe : va_A (wV M Y G S) s.heap.size = A at hD hE ⊢
  have hA : ∀ q : Nat, s.heap.size ≤ q → A q := fun q h => by rw [← hAe]; exact Or.inr h
  have hS : va_S A s.heap s.heap [] := va_S.rf
  have hP : va_P (dC, dI) classes (wV M Y G S) s.heap := hP
  have hK : va_K (dC, dI) classes (tV M) s := hK
  have hEw : ∀ (H : Heap) (locs : List Loc), va_S A s.heap H locs → ∀ U : State, U.heap = H → s.WarmedH U.vm → E A U := fun H locs hS U hU hW => X.kept A s U H locs hE hS hU hW
  have hl := lv_entry ([.ref M.o_Tb]) (n := 8) (Nat.le_of_ble_eq_true rfl)
  rw [lg_entry_eq]
  generalize (lg_sl ([.ref M.o_Tb]) ++ List.replicate (8 - (lg_sl ([.ref M.o_Tb])).length) Slot.unset).toArray = ls at hl ⊢
  have hl : lv_has ls 8 [(0, .ref M.o_Tb)] := hl
  refine qabs (fun Q hQ => ?_)
  have hB_70 : ∀ (S : CS) (H : Heap) (locs : List Loc) (ls : Array Slot), f_Tb_read_70 K G S = some (r, S') → va_P (dC, dI) classes (wV M Y G S) H → va_D A (wV M Y G S) → va_S A s.heap H locs → lv_has ls 8 [] → W p l e ({ frames := 2, cells := 0, slots := 0, locals := 41 }) s m ([.ref M.o_Tb] : List Value).toArray below meth c H locs 0 0 Q (F0 m 70 ls []) := by
    intro S H locs ls h hP hD hS hl
    rw [f_Tb_read_70] at h
    refine lv_iconst (v := 0) hx hb d_Tb_read_70 (by decide) ?_
    rw [hQ]
    have e1 : (0 : Int32) = r := congrArg Prod.fst (Option.some.inj h)
    have e2 : S = S' := congrArg Prod.snd (Option.some.inj h)
    have hP := ly_newP e2.symm hP
    have hD := ly_newD e2.symm hD
    exact W.zret (v := 0) hx hb hr rfl (fun t ht hW => ⟨⟨0, (), rfl, e1, by rw [ht]; exact hP, va_K.moved hW.alike hK, hD⟩, hS.F ht⟩) hS.2.2 d_Tb_read_71
  have hB_108 : ∀ (S : CS) (H : Heap) (locs : List Loc) (ls : Array Slot), f_Tb_read_108 K G S = some (r, S') → va_P (dC, dI) classes (wV M Y G S) H → va_D A (wV M Y G S) → va_S A s.heap H locs → lv_has ls 8 [] → W p l e ({ frames := 2, cells := 0, slots := 0, locals := 41 }) s m ([.ref M.o_Tb] : List Value).toArray below meth c H locs 0 0 Q (F0 m 108 ls []) := by
    intro S H locs ls h hP hD hS hl
    rw [f_Tb_read_108] at h
    refine lv_iconst (v := 0) hx hb d_Tb_read_108 (by decide) ?_
    rw [hQ]
    have e1 : (0 : Int32) = r := congrArg Prod.fst (Option.some.inj h)
    have e2 : S = S' := congrArg Prod.snd (Option.some.inj h)
    have hP := ly_newP e2.symm hP
    have hD := ly_newD e2.symm hD
    exact W.zret (v := 0) hx hb hr rfl (fun t ht hW => ⟨⟨0, (), rfl, e1, by rw [ht]; exact hP, va_K.moved hW.alike hK, hD⟩, hS.F ht⟩) hS.2.2 d_Tb_read_109
  have hB_205 : ∀ (rec_156 : Int32 → Int32 → Int32 → CS → Option (Int32 × CS)) (hr_156 : ∀ (y_2 : Int32) (y_6 : Int32) (y_7 : Int32) (S : CS) (H : Heap) (locs : List Loc) (ls : Array Slot), rec_156 y_2 y_6 y_7 S = some (r, S') → va_P (dC, dI) classes (wV M Y G S) H → va_D A (wV M Y G S) → va_S A s.heap H locs → lv_has ls 8 [(0, .ref M.o_Tb), (2, .int y_2), (6, .int y_6), (7, .int y_7)] → W p l e ({ frames := 2, cells := 0, slots := 0, locals := 41 }) s m ([.ref M.o_Tb] : List Value).toArray below meth c H locs 0 0 Q (F0 m 156 ls [])), ∀ (y_2 : Int32) (y_6 : Int32) (y_7 : Int32) (z_1 : Int32) (z_2 : Int32) (S : CS) (H : Heap) (locs : List Loc) (ls : Array Slot), f_Tb_read_205 K G rec_156 y_2 y_6 y_7 z_1 z_2 S = some (r, S') → va_P (dC, dI) classes (wV M Y G S) H → va_D A (wV M Y G S) → va_S A s.heap H locs → lv_has ls 8 [(0, .ref M.o_Tb), (2, .int y_2), (6, .int y_6), (7, .int y_7)] → W p l e ({ frames := 2, cells := 0, slots := 0, locals := 41 }) s m ([.ref M.o_Tb] : List Value).toArray below meth c H locs 0 0 Q (F0 m 205 ls [.int z_2, .int z_1, .ref M.a_Tb_next]) := by
    intro rec_156 hr_156 y_2 y_6 y_7 z_1 z_2 S H locs ls h hP hD hS hl
    rw [f_Tb_read_205] at h
    obtain ⟨g_25, h⟩ := lf_gE h
    refine va_iast hx hb hK hP hD hS 15 2 rfl rfl g_25 d_Tb_read_205 (fun H locs hP hD hS => ?_)
    obtain ⟨S_26, eS_26, h⟩ := lf_lX h
    have hP := ly_newP eS_26 hP
    have hD := ly_newD eS_26 hD
    obtain ⟨x_27, ex_27, h⟩ := lf_lX h
    refine lv_iinc (v := x_27) (lv' := [(7, .int x_27), (0, .ref M.o_Tb), (2, .int y_2), (6, .int y_6)]) hx hb d_Tb_read_206 hl (k := 3) rfl (by rw [ex_27]; rfl) (by decide) rfl (fun ls hl => ?_)
    refine lv_goto (tgt := 156) hx hb d_Tb_read_209 (by decide) ?_
    exact hr_156 y_2 y_6 x_27 S_26 _ _ _ h hP hD hS (lv_sub hl [1, 2, 3, 0] rfl)
  have hB_156 : ∀ (k : Nat), ∀ (y_2 : Int32) (y_6 : Int32) (y_7 : Int32) (S : CS) (H : Heap) (locs : List Loc) (ls : Array Slot), f_Tb_read_156 K G k y_2 y_6 y_7 S = some (r, S') → va_P (dC, dI) classes (wV M Y G S) H → va_D A (wV M Y G S) → va_S A s.heap H locs → lv_has ls 8 [(0, .ref M.o_Tb), (2, .int y_2), (6, .int y_6), (7, .int y_7)] → W p l e ({ frames := 2, cells := 0, slots := 0, locals := 41 }) s m ([.ref M.o_Tb] : List Value).toArray below meth c H locs 0 0 Q (F0 m 156 ls []) := by
    intro k
    induction k with
    | zero => intro y_2 y_6 y_7 S H locs ls h; exact lf_no h
    | succ k hr_156 =>
      intro y_2 y_6 y_7 S H locs ls h hP hD hS hl
      rw [f_Tb_read_156] at h
      refine lv_iload hx hb d_Tb_read_156 (lv_at hl 3 rfl) ?_
      refine lv_aload_n hx hb d_Tb_read_158 rfl (lv_at hl 0 rfl) ?_
      refine va_get (D := (dC, dI)) (ci := 4) (v := .ref M.a_Tb_next) (C := R_Tb) (T := F_Tb) (N := 10) hx hb hts (fun w h => u_Vq_Tb w (i_Tb w h)) hown hK hP 3 rfl rfl 8 (by decide) (hts _ (u_Vq_Tb _ k_Tb_14)) (fun _ h9 => h9) rfl d_Tb_read_159 ?_
      refine va_alen (v := nI (G.n / 2 + 2)) hx hb hK hP 15 2 rfl rfl rfl d_Tb_read_162 ?_
      refine lv_icmp_ge (tgt := 212) hx hb d_Tb_read_163 (by decide) (fun c_22 => ?_) (fun c_22 => ?_)
      · have h := lf_t h c_22
        refine lv_iconst (v := 1) hx hb d_Tb_read_212 (by decide) ?_
        rw [hQ]
        have e1 : (1 : Int32) = r := congrArg Prod.fst (Option.some.inj h)
        have e2 : S = S' := congrArg Prod.snd (Option.some.inj h)
        have hP := ly_newP e2.symm hP
        have hD := ly_newD e2.symm hD
        exact W.zret (v := 1) hx hb hr rfl (fun t ht hW => ⟨⟨1, (), rfl, e1, by rw [ht]; exact hP, va_K.moved hW.alike hK, hD⟩, hS.F ht⟩) hS.2.2 d_Tb_read_213
      · have h := lf_f h c_22
        refine lv_aload_n hx hb d_Tb_read_166 rfl (lv_at hl 0 rfl) ?_
        refine va_get (D := (dC, dI)) (ci := 4) (v := .ref M.a_Tb_next) (C := R_Tb) (T := F_Tb) (N := 10) hx hb hts (fun w h => u_Vq_Tb w (i_Tb w h)) hown hK hP 3 rfl rfl 8 (by decide) (hts _ (u_Vq_Tb _ k_Tb_14)) (fun _ h9 => h9) rfl d_Tb_read_167 ?_
        refine lv_iload hx hb d_Tb_read_170 (lv_at hl 3 rfl) ?_
        refine lv_iload hx hb d_Tb_read_172 (lv_at hl 3 rfl) ?_
        refine lv_iload hx hb d_Tb_read_174 (lv_at hl 2 rfl) ?_
        refine lv_iconst (v := 2) hx hb d_Tb_read_176 (by decide) ?_
        refine lv_iadd hx hb d_Tb_read_177 ?_
        refine lv_icmp_ge (tgt := 204) hx hb d_Tb_read_178 (by decide) (fun c_23 => ?_) (fun c_23 => ?_)
        · have h := lf_t h c_23
          refine lv_iconst (v := 0) hx hb d_Tb_read_204 (by decide) ?_
          exact hB_205 _ hr_156 y_2 y_6 y_7 y_7 0 S _ _ _ h hP hD hS (lv_sub hl [0, 1, 2, 3] rfl)
        · have h := lf_f h c_23
          refine lv_aload_n hx hb d_Tb_read_181 rfl (lv_at hl 0 rfl) ?_
          refine va_get (D := (dC, dI)) (ci := 4) (v := .ref M.o_Dk) (C := R_Tb) (T := F_Tb) (N := 10) hx hb hts (fun w h => u_Vq_Tb w (i_Tb w h)) hown hK hP 3 rfl rfl 0 (by decide) (hts _ (u_Vq_Tb _ k_Tb_6)) (fun _ h9 => h9) rfl d_Tb_read_182 ?_
          refine lv_iload_n hx hb d_Tb_read_185 rfl (lv_at hl 1 rfl) ?_
          refine lv_sipush (v := 512) hx hb d_Tb_read_186 (by decide) ?_
          refine lv_imul hx hb d_Tb_read_189 ?_
          refine lv_iconst (v := 4) hx hb d_Tb_read_190 (by decide) ?_
          refine lv_iload hx hb d_Tb_read_191 (lv_at hl 3 rfl) ?_
          refine lv_imul hx hb d_Tb_read_193 ?_
          refine lv_iadd hx hb d_Tb_read_194 ?_
          obtain ⟨r_24, S_24, hc_24, h⟩ := lf_cE h
          have hFc := lx_free hD hS hA
          refine va_calli (va_runV (As := [.int ((y_2 * 512) + (4 * y_7))]) (rest := [.int y_7, .ref M.a_Tb_next]) ⟨hx, hb, hml, hown, hts⟩ (l_Dk_four l dC dI X _ hc_24) (cwV 1 hts (gwV good_Vq (u_Vq_Tb _ k_Tb_24) (u_Vq_Dk _ k_Dk_14) (u_Vq_Dk _ k_Dk_15) (u_Vq_Dk _ k_Dk_0) (wcs (u_Vq_Dk _ k_Dk_16) (fun _ h => h))) rfl rfl rfl (by decide +kernel) ⟨Nat.le_of_ble_eq_true rfl, Nat.le_of_ble_eq_true rfl⟩) (pv_ofE (X.same _) (fun U z1 z2 => X.mono _ _ U hFc (hEw _ _ hS U z1 z2)) hP hK hD (va_recv hK hP (ci := 0) (q0 := 1) rfl rfl)) rfl rfl hl.1 rfl (lv_room (Nat.le_of_ble_eq_true rfl)) d_Tb_read_195 ⟨by decide, by decide⟩) hS (fun q _ h => hFc q h) hFc (fun r_ u t H locs ht hvm hw hB hz1 hk1 hS => ?_)
          rw [hw]
          obtain ⟨hP, -, hD⟩ := hB
          rw [ht] at hP
          have hD := lx_dj hD hFc
          refine lv_ldc (v := 268435455) hx hb hown (hts _ (u_Vq_Tb _ k_Tb_38)) d_Tb_read_198 ?_
          refine lv_iand hx hb d_Tb_read_200 ?_
          refine lv_goto (tgt := 205) hx hb d_Tb_read_201 (by decide) ?_
          exact hB_205 _ hr_156 y_2 y_6 y_7 y_7 (r_24 &&& 268435455) S_24 _ _ _ h hP hD hS (lv_sub hl [0, 1, 2, 3] rfl)
  rw [f_Tb_read] at h
  refine lv_aload_n hx hb d_Tb_read_0 rfl (lv_at hl 0 rfl) ?_
  refine va_get (D := (dC, dI)) (ci := 4) (v := .ref M.o_Dk) (C := R_Tb) (T := F_Tb) (N := 10) hx hb hts (fun w h => u_Vq_Tb w (i_Tb w h)) hown hK hP 3 rfl rfl 0 (by decide) (hts _ (u_Vq_Tb _ k_Tb_6)) (fun _ h9 => h9) rfl d_Tb_read_1 ?_
  refine lv_bipush (v := 13) hx hb d_Tb_read_4 (by decide) ?_
  obtain ⟨r_1, S_1, hc_1, h⟩ := lf_cE h
  have hFc := lx_free hD hS hA
  refine va_calli (va_runV (As := [.int 13]) (rest := []) ⟨hx, hb, hml, hown, hts⟩ (l_Dk_one l dC dI X _ hc_1) (cwV 1 hts (gwV good_Vq (u_Vq_Tb _ k_Tb_22) (u_Vq_Dk _ k_Dk_20) (u_Vq_Dk _ k_Dk_21) (u_Vq_Dk _ k_Dk_0) (wcs (u_Vq_Dk _ k_Dk_22) (fun _ h => h))) rfl rfl rfl (by decide +kernel) ⟨Nat.le_of_ble_eq_true rfl, Nat.le_of_ble_eq_true rfl⟩) (pv_ofE (X.same _) (fun U z1 z2 => X.mono _ _ U hFc (hEw _ _ hS U z1 z2)) hP hK hD (va_recv hK hP (ci := 0) (q0 := 1) rfl rfl)) rfl rfl hl.1 rfl (lv_room (Nat.le_of_ble_eq_true rfl)) d_Tb_read_6 ⟨by decide, by decide⟩) hS (fun q _ h => hFc q h) hFc (fun r_ u t H locs ht hvm hw hB hz1 hk1 hS => ?_)
  rw [hw]
  obtain ⟨hP, -, hD⟩ := hB
  rw [ht] at hP
  have hD := lx_dj hD hFc
  refine lv_istore_n (lv' := [(1, .int r_1), (0, .ref M.o_Tb)]) hx hb d_Tb_read_9 rfl hl (by decide) rfl (fun ls hl => ?_)
  refine lv_aload_n hx hb d_Tb_read_10 rfl (lv_at hl 1 rfl) ?_
  refine va_get (D := (dC, dI)) (ci := 4) (v := .ref M.o_Dk) (C := R_Tb) (T := F_Tb) (N := 10) hx hb hts (fun w h => u_Vq_Tb w (i_Tb w h)) hown hK hP 3 rfl rfl 0 (by decide) (hts _ (u_Vq_Tb _ k_Tb_6)) (fun _ h9 => h9) rfl d_Tb_read_11 ?_
  refine lv_bipush (v := 14) hx hb d_Tb_read_14 (by decide) ?_
  obtain ⟨r_2, S_2, hc_2, h⟩ := lf_cE h
  have hFc := lx_free hD hS hA
  refine va_calli (va_runV (As := [.int 14]) (rest := []) ⟨hx, hb, hml, hown, hts⟩ (l_Dk_two l dC dI X _ hc_2) (cwV 1 hts (gwV good_Vq (u_Vq_Tb _ k_Tb_23) (u_Vq_Dk _ k_Dk_17) (u_Vq_Dk _ k_Dk_18) (u_Vq_Dk _ k_Dk_0) (wcs (u_Vq_Dk _ k_Dk_19) (fun _ h => h))) rfl rfl rfl (by decide +kernel) ⟨Nat.le_of_ble_eq_true rfl, Nat.le_of_ble_eq_true rfl⟩) (pv_ofE (X.same _) (fun U z1 z2 => X.mono _ _ U hFc (hEw _ _ hS U z1 z2)) hP hK hD (va_recv hK hP (ci := 0) (q0 := 1) rfl rfl)) rfl rfl hl.1 rfl (lv_room (Nat.le_of_ble_eq_true rfl)) d_Tb_read_16 ⟨by decide, by decide⟩) hS (fun q _ h => hFc q h) hFc (fun r_ u t H locs ht hvm hw hB hz1 hk1 hS => ?_)
  rw [hw]
  obtain ⟨hP, -, hD⟩ := hB
  rw [ht] at hP
  have hD := lx_dj hD hFc
  refine lv_istore_n (lv' := [(2, .int r_2), (1, .int r_1), (0, .ref M.o_Tb)]) hx hb d_Tb_read_19 rfl hl (by decide) rfl (fun ls hl => ?_)
  refine lv_aload_n hx hb d_Tb_read_20 rfl (lv_at hl 2 rfl) ?_
  refine va_get (D := (dC, dI)) (ci := 4) (v := .ref M.o_Dk) (C := R_Tb) (T := F_Tb) (N := 10) hx hb hts (fun w h => u_Vq_Tb w (i_Tb w h)) hown hK hP 3 rfl rfl 0 (by decide) (hts _ (u_Vq_Tb _ k_Tb_6)) (fun _ h9 => h9) rfl d_Tb_read_21 ?_
  refine lv_bipush (v := 16) hx hb d_Tb_read_24 (by decide) ?_
  obtain ⟨r_3, S_3, hc_3, h⟩ := lf_cE h
  have hFc := lx_free hD hS hA
  refine va_calli (va_runV (As := [.int 16]) (rest := []) ⟨hx, hb, hml, hown, hts⟩ (l_Dk_one l dC dI X _ hc_3) (cwV 1 hts (gwV good_Vq (u_Vq_Tb _ k_Tb_22) (u_Vq_Dk _ k_Dk_20) (u_Vq_Dk _ k_Dk_21) (u_Vq_Dk _ k_Dk_0) (wcs (u_Vq_Dk _ k_Dk_22) (fun _ h => h))) rfl rfl rfl (by decide +kernel) ⟨Nat.le_of_ble_eq_true rfl, Nat.le_of_ble_eq_true rfl⟩) (pv_ofE (X.same _) (fun U z1 z2 => X.mono _ _ U hFc (hEw _ _ hS U z1 z2)) hP hK hD (va_recv hK hP (ci := 0) (q0 := 1) rfl rfl)) rfl rfl hl.1 rfl (lv_room (Nat.le_of_ble_eq_true rfl)) d_Tb_read_26 ⟨by decide, by decide⟩) hS (fun q _ h => hFc q h) hFc (fun r_ u t H locs ht hvm hw hB hz1 hk1 hS => ?_)
  rw [hw]
  obtain ⟨hP, -, hD⟩ := hB
  rw [ht] at hP
  have hD := lx_dj hD hFc
  refine lv_istore_n (lv' := [(3, .int r_3), (2, .int r_2), (1, .int r_1), (0, .ref M.o_Tb)]) hx hb d_Tb_read_29 rfl hl (by decide) rfl (fun ls hl => ?_)
  refine lv_aload_n hx hb d_Tb_read_30 rfl (lv_at hl 3 rfl) ?_
  refine va_get (D := (dC, dI)) (ci := 4) (v := .ref M.o_Dk) (C := R_Tb) (T := F_Tb) (N := 10) hx hb hts (fun w h => u_Vq_Tb w (i_Tb w h)) hown hK hP 3 rfl rfl 0 (by decide) (hts _ (u_Vq_Tb _ k_Tb_6)) (fun _ h9 => h9) rfl d_Tb_read_31 ?_
  refine lv_bipush (v := 36) hx hb d_Tb_read_34 (by decide) ?_
  obtain ⟨r_4, S_4, hc_4, h⟩ := lf_cE h
  have hFc := lx_free hD hS hA
  refine va_calli (va_runV (As := [.int 36]) (rest := []) ⟨hx, hb, hml, hown, hts⟩ (l_Dk_four l dC dI X _ hc_4) (cwV 1 hts (gwV good_Vq (u_Vq_Tb _ k_Tb_24) (u_Vq_Dk _ k_Dk_14) (u_Vq_Dk _ k_Dk_15) (u_Vq_Dk _ k_Dk_0) (wcs (u_Vq_Dk _ k_Dk_16) (fun _ h => h))) rfl rfl rfl (by decide +kernel) ⟨Nat.le_of_ble_eq_true rfl, Nat.le_of_ble_eq_true rfl⟩) (pv_ofE (X.same _) (fun U z1 z2 => X.mono _ _ U hFc (hEw _ _ hS U z1 z2)) hP hK hD (va_recv hK hP (ci := 0) (q0 := 1) rfl rfl)) rfl rfl hl.1 rfl (lv_room (Nat.le_of_ble_eq_true rfl)) d_Tb_read_36 ⟨by decide, by decide⟩) hS (fun q _ h => hFc q h) hFc (fun r_ u t H locs ht hvm hw hB hz1 hk1 hS => ?_)
  rw [hw]
  obtain ⟨hP, -, hD⟩ := hB
  rw [ht] at hP
  have hD := lx_dj hD hFc
  refine lv_istore (lv' := [(4, .int r_4), (3, .int r_3), (2, .int r_2), (1, .int r_1), (0, .ref M.o_Tb)]) hx hb d_Tb_read_39 hl (by decide) rfl (fun ls hl => ?_)
  refine lv_aload_n hx hb d_Tb_read_41 rfl (lv_at hl 4 rfl) ?_
  refine va_get (D := (dC, dI)) (ci := 4) (v := .ref M.o_Dk) (C := R_Tb) (T := F_Tb) (N := 10) hx hb hts (fun w h => u_Vq_Tb w (i_Tb w h)) hown hK hP 3 rfl rfl 0 (by decide) (hts _ (u_Vq_Tb _ k_Tb_6)) (fun _ h9 => h9) rfl d_Tb_read_42 ?_
  refine lv_bipush (v := 44) hx hb d_Tb_read_45 (by decide) ?_
  obtain ⟨r_5, S_5, hc_5, h⟩ := lf_cE h
  have hFc := lx_free hD hS hA
  refine va_calli (va_runV (As := [.int 44]) (rest := []) ⟨hx, hb, hml, hown, hts⟩ (l_Dk_four l dC dI X _ hc_5) (cwV 1 hts (gwV good_Vq (u_Vq_Tb _ k_Tb_24) (u_Vq_Dk _ k_Dk_14) (u_Vq_Dk _ k_Dk_15) (u_Vq_Dk _ k_Dk_0) (wcs (u_Vq_Dk _ k_Dk_16) (fun _ h => h))) rfl rfl rfl (by decide +kernel) ⟨Nat.le_of_ble_eq_true rfl, Nat.le_of_ble_eq_true rfl⟩) (pv_ofE (X.same _) (fun U z1 z2 => X.mono _ _ U hFc (hEw _ _ hS U z1 z2)) hP hK hD (va_recv hK hP (ci := 0) (q0 := 1) rfl rfl)) rfl rfl hl.1 rfl (lv_room (Nat.le_of_ble_eq_true rfl)) d_Tb_read_47 ⟨by decide, by decide⟩) hS (fun q _ h => hFc q h) hFc (fun r_ u t H locs ht hvm hw hB hz1 hk1 hS => ?_)
  rw [hw]
  obtain ⟨hP, -, hD⟩ := hB
  rw [ht] at hP
  have hD := lx_dj hD hFc
  refine lv_istore (lv' := [(5, .int r_5), (4, .int r_4), (3, .int r_3), (2, .int r_2), (1, .int r_1), (0, .ref M.o_Tb)]) hx hb d_Tb_read_50 hl (by decide) rfl (fun ls hl => ?_)
  refine lv_aload_n hx hb d_Tb_read_52 rfl (lv_at hl 5 rfl) ?_
  obtain ⟨r_6, S_6, hc_6, h⟩ := lf_cE h
  have hFc := lx_free hD hS hA
  refine va_calli (va_runV (As := []) (rest := []) ⟨hx, hb, hml, hown, hts⟩ (l_Tb_constantsFit l dC dI X _ hc_6) (cwV 0 hts (gwV good_Vq (u_Vq_Tb _ k_Tb_25) (u_Vq_Tb _ k_Tb_26) (u_Vq_Tb _ k_Tb_110) (u_Vq_Tb _ k_Tb_0) (wcs (u_Vq_Tb _ k_Tb_27) (fun _ h => h))) rfl rfl rfl (by decide +kernel) ⟨Nat.le_of_ble_eq_true rfl, Nat.le_of_ble_eq_true rfl⟩) (pv_ofE (X.same _) (fun U z1 z2 => X.mono _ _ U hFc (hEw _ _ hS U z1 z2)) hP hK hD (va_recv hK hP (ci := 4) (q0 := 3) rfl rfl)) rfl rfl hl.1 rfl (lv_room (Nat.le_of_ble_eq_true rfl)) d_Tb_read_53 ⟨by decide, by decide⟩) hS (fun q _ h => hFc q h) hFc (fun r_ u t H locs ht hvm hw hB hz1 hk1 hS => ?_)
  rw [hw]
  obtain ⟨hP, -, hD⟩ := hB
  rw [ht] at hP
  have hD := lx_dj hD hFc
  refine lv_if_eq (tgt := 70) hx hb d_Tb_read_56 (by decide) (fun c_7 => ?_) (fun c_7 => ?_)
  · have h := lf_t h c_7
    exact hB_70 S_6 _ _ _ h hP hD hS (lv_sub hl [] rfl)
  · have h := lf_f h c_7
    refine lv_iload_n hx hb d_Tb_read_59 rfl (lv_at hl 4 rfl) ?_
    refine lv_iload_n hx hb d_Tb_read_60 rfl (lv_at hl 3 rfl) ?_
    refine lv_iload_n hx hb d_Tb_read_61 rfl (lv_at hl 2 rfl) ?_
    refine lv_iload hx hb d_Tb_read_62 (lv_at hl 1 rfl) ?_
    obtain ⟨r_8, hc_8, h⟩ := lf_bE h
    have hFc := lx_free0 hS hA
    refine va_calli (va_runS (As := [.int r_1, .int r_2, .int r_3, .int r_4]) (rest := []) ⟨hx, hb, hml, hown, hts⟩ (l_Tb_numbersFit l dC dI  _ hc_8) (va_cwS 4 hts (gwS good_Vq (u_Vq_Tb _ k_Tb_29) (u_Vq_Tb _ k_Tb_30) (u_Vq_Tb _ k_Tb_0) (wcs (u_Vq_Tb _ k_Tb_31) (fun _ h => h))) rfl rfl rfl (by decide +kernel) ⟨Nat.le_of_ble_eq_true rfl, Nat.le_of_ble_eq_true rfl⟩) (ps_of (W := []) (tys := []) (hP.sub (ws' := []) [] rfl) (hK.sub [] rfl) (hD.sub (ws' := []) [] (by decide) rfl)) rfl rfl hl.1 rfl (lv_room (Nat.le_of_ble_eq_true rfl)) d_Tb_read_64 ⟨by decide, by decide⟩) hS (fun q _ h => hFc q h) hFc (fun r_ u t H locs ht hvm hw hB hz1 hk1 hS => ?_)
    rw [hw]
    have hP := lx_stat (A := A) hP hk1
    refine lv_if_ne (tgt := 72) hx hb d_Tb_read_67 (by decide) (fun c_9 => ?_) (fun c_9 => ?_)
    · have h := lf_f h c_9
      refine lv_aload_n hx hb d_Tb_read_72 rfl (lv_at hl 5 rfl) ?_
      refine lv_iload_n hx hb d_Tb_read_73 rfl (lv_at hl 4 rfl) ?_
      refine lv_iload_n hx hb d_Tb_read_74 rfl (lv_at hl 3 rfl) ?_
      refine lv_iload_n hx hb d_Tb_read_75 rfl (lv_at hl 2 rfl) ?_
      refine lv_iload hx hb d_Tb_read_76 (lv_at hl 1 rfl) ?_
      obtain ⟨r_10, S_10, hc_10, h⟩ := lf_cE h
      have hFc := lx_free hD hS hA
      refine va_calli (va_runV (As := [.int r_1, .int r_2, .int r_3, .int r_4]) (rest := []) ⟨hx, hb, hml, hown, hts⟩ (l_Tb_clustersWith l dC dI X _ hc_10) (cwV 4 hts (gwV good_Vq (u_Vq_Tb _ k_Tb_32) (u_Vq_Tb _ k_Tb_33) (u_Vq_Tb _ k_Tb_109) (u_Vq_Tb _ k_Tb_0) (wcs (u_Vq_Tb _ k_Tb_34) (fun _ h => h))) rfl rfl rfl (by decide +kernel) ⟨Nat.le_of_ble_eq_true rfl, Nat.le_of_ble_eq_true rfl⟩) (pv_ofE (X.same _) (fun U z1 z2 => X.mono _ _ U hFc (hEw _ _ hS U z1 z2)) hP hK hD (va_recv hK hP (ci := 4) (q0 := 3) rfl rfl)) rfl rfl hl.1 rfl (lv_room (Nat.le_of_ble_eq_true rfl)) d_Tb_read_78 ⟨by decide, by decide⟩) hS (fun q _ h => hFc q h) hFc (fun r_ u t H locs ht hvm hw hB hz1 hk1 hS => ?_)
      rw [hw]
      obtain ⟨hP, -, hD⟩ := hB
      rw [ht] at hP
      have hD := lx_dj hD hFc
      refine lv_istore (lv' := [(6, .int r_10), (5, .int r_5), (4, .int r_4), (3, .int r_3), (2, .int r_2), (1, .int r_1), (0, .ref M.o_Tb)]) hx hb d_Tb_read_81 hl (by decide) rfl (fun ls hl => ?_)
      refine lv_iload hx hb d_Tb_read_83 (lv_at hl 0 rfl) ?_
      refine lv_iload hx hb d_Tb_read_85 (lv_at hl 2 rfl) ?_
      obtain ⟨r_11, hc_11, h⟩ := lf_bE h
      have hFc := lx_free0 hS hA
      refine va_calli (va_runS (As := [.int r_10, .int r_4]) (rest := []) ⟨hx, hb, hml, hown, hts⟩ (l_Tb_isEnough l dC dI  _ hc_11) (va_cwS 2 hts (gwS good_Vq (u_Vq_Tb _ k_Tb_35) (u_Vq_Tb _ k_Tb_36) (u_Vq_Tb _ k_Tb_0) (wcs (u_Vq_Tb _ k_Tb_37) (fun _ h => h))) rfl rfl rfl (by decide +kernel) ⟨Nat.le_of_ble_eq_true rfl, Nat.le_of_ble_eq_true rfl⟩) (ps_of (W := []) (tys := []) (hP.sub (ws' := []) [] rfl) (hK.sub [] rfl) (hD.sub (ws' := []) [] (by decide) rfl)) rfl rfl hl.1 rfl (lv_room (Nat.le_of_ble_eq_true rfl)) d_Tb_read_87 ⟨by decide, by decide⟩) hS (fun q _ h => hFc q h) hFc (fun r_ u t H locs ht hvm hw hB hz1 hk1 hS => ?_)
      rw [hw]
      have hP := lx_stat (A := A) hP hk1
      refine lv_if_eq (tgt := 108) hx hb d_Tb_read_90 (by decide) (fun c_12 => ?_) (fun c_12 => ?_)
      · have h := lf_t h c_12
        exact hB_108 S_10 _ _ _ h hP hD hS (lv_sub hl [] rfl)
      · have h := lf_f h c_12
        refine lv_iload hx hb d_Tb_read_93 (lv_at hl 1 rfl) ?_
        refine lv_iconst (v := 2) hx hb d_Tb_read_95 (by decide) ?_
        refine lv_icmp_lt (tgt := 108) hx hb d_Tb_read_96 (by decide) (fun c_13 => ?_) (fun c_13 => ?_)
        · have h := lf_t h c_13
          exact hB_108 S_10 _ _ _ h hP hD hS (lv_sub hl [] rfl)
        · have h := lf_f h c_13
          refine lv_iload hx hb d_Tb_read_99 (lv_at hl 1 rfl) ?_
          refine lv_iload hx hb d_Tb_read_101 (lv_at hl 0 rfl) ?_
          refine lv_iconst (v := 1) hx hb d_Tb_read_103 (by decide) ?_
          refine lv_iadd hx hb d_Tb_read_104 ?_
          refine lv_icmp_le (tgt := 110) hx hb d_Tb_read_105 (by decide) (fun c_14 => ?_) (fun c_14 => ?_)
          · have h := lf_t h c_14
            refine lv_aload_n hx hb d_Tb_read_110 rfl (lv_at hl 6 rfl) ?_
            refine lv_iload_n hx hb d_Tb_read_111 rfl (lv_at hl 5 rfl) ?_
            refine va_put (D := (dC, dI)) (ci := 4) (v := .int r_1) (ty := .int) (C := R_Tb) (T := F_Tb) (N := 10) hx hb hts (fun w h => u_Vq_Tb w (i_Tb w h)) t_Tb t_Tb_ok n_Tb hown hK hP hD hS 3 rfl rfl 1 (by decide) (hts _ (u_Vq_Tb _ k_Tb_7)) (fun _ h9 => h9) rfl (by decide +kernel) rfl rfl (Nat.le_of_ble_eq_true rfl) d_Tb_read_112 (fun H locs hP hD hS => ?_)
            obtain ⟨S_15, eS_15, h⟩ := lf_lX h
            have hP := ly_newP eS_15 hP
            have hD := ly_newD eS_15 hD
            refine lv_aload_n hx hb d_Tb_read_115 rfl (lv_at hl 6 rfl) ?_
            refine lv_iload_n hx hb d_Tb_read_116 rfl (lv_at hl 4 rfl) ?_
            refine va_put (D := (dC, dI)) (ci := 4) (v := .int r_2) (ty := .int) (C := R_Tb) (T := F_Tb) (N := 10) hx hb hts (fun w h => u_Vq_Tb w (i_Tb w h)) t_Tb t_Tb_ok n_Tb hown hK hP hD hS 3 rfl rfl 2 (by decide) (hts _ (u_Vq_Tb _ k_Tb_8)) (fun _ h9 => h9) rfl (by decide +kernel) rfl rfl (Nat.le_of_ble_eq_true rfl) d_Tb_read_117 (fun H locs hP hD hS => ?_)
            obtain ⟨S_16, eS_16, h⟩ := lf_lX h
            have hP := ly_newP eS_16 hP
            have hD := ly_newD eS_16 hD
            refine lv_aload_n hx hb d_Tb_read_120 rfl (lv_at hl 6 rfl) ?_
            refine lv_iload_n hx hb d_Tb_read_121 rfl (lv_at hl 3 rfl) ?_
            refine va_put (D := (dC, dI)) (ci := 4) (v := .int r_3) (ty := .int) (C := R_Tb) (T := F_Tb) (N := 10) hx hb hts (fun w h => u_Vq_Tb w (i_Tb w h)) t_Tb t_Tb_ok n_Tb hown hK hP hD hS 3 rfl rfl 3 (by decide) (hts _ (u_Vq_Tb _ k_Tb_9)) (fun _ h9 => h9) rfl (by decide +kernel) rfl rfl (Nat.le_of_ble_eq_true rfl) d_Tb_read_122 (fun H locs hP hD hS => ?_)
            obtain ⟨S_17, eS_17, h⟩ := lf_lX h
            have hP := ly_newP eS_17 hP
            have hD := ly_newD eS_17 hD
            refine lv_aload_n hx hb d_Tb_read_125 rfl (lv_at hl 6 rfl) ?_
            refine lv_iload hx hb d_Tb_read_126 (lv_at hl 2 rfl) ?_
            refine va_put (D := (dC, dI)) (ci := 4) (v := .int r_4) (ty := .int) (C := R_Tb) (T := F_Tb) (N := 10) hx hb hts (fun w h => u_Vq_Tb w (i_Tb w h)) t_Tb t_Tb_ok n_Tb hown hK hP hD hS 3 rfl rfl 4 (by decide) (hts _ (u_Vq_Tb _ k_Tb_10)) (fun _ h9 => h9) rfl (by decide +kernel) rfl rfl (Nat.le_of_ble_eq_true rfl) d_Tb_read_128 (fun H locs hP hD hS => ?_)
            obtain ⟨S_18, eS_18, h⟩ := lf_lX h
            have hP := ly_newP eS_18 hP
            have hD := ly_newD eS_18 hD
            refine lv_aload_n hx hb d_Tb_read_131 rfl (lv_at hl 6 rfl) ?_
            refine lv_iload hx hb d_Tb_read_132 (lv_at hl 1 rfl) ?_
            refine va_put (D := (dC, dI)) (ci := 4) (v := .int r_5) (ty := .int) (C := R_Tb) (T := F_Tb) (N := 10) hx hb hts (fun w h => u_Vq_Tb w (i_Tb w h)) t_Tb t_Tb_ok n_Tb hown hK hP hD hS 3 rfl rfl 5 (by decide) (hts _ (u_Vq_Tb _ k_Tb_11)) (fun _ h9 => h9) rfl (by decide +kernel) rfl rfl (Nat.le_of_ble_eq_true rfl) d_Tb_read_134 (fun H locs hP hD hS => ?_)
            obtain ⟨S_19, eS_19, h⟩ := lf_lX h
            have hP := ly_newP eS_19 hP
            have hD := ly_newD eS_19 hD
            refine lv_aload_n hx hb d_Tb_read_137 rfl (lv_at hl 6 rfl) ?_
            refine lv_iload_n hx hb d_Tb_read_138 rfl (lv_at hl 4 rfl) ?_
            refine lv_iload_n hx hb d_Tb_read_139 rfl (lv_at hl 3 rfl) ?_
            refine lv_iload hx hb d_Tb_read_140 (lv_at hl 2 rfl) ?_
            refine lv_imul hx hb d_Tb_read_142 ?_
            refine lv_iadd hx hb d_Tb_read_143 ?_
            refine va_put (D := (dC, dI)) (ci := 4) (v := .int (r_2 + (r_3 * r_4))) (ty := .int) (C := R_Tb) (T := F_Tb) (N := 10) hx hb hts (fun w h => u_Vq_Tb w (i_Tb w h)) t_Tb t_Tb_ok n_Tb hown hK hP hD hS 3 rfl rfl 6 (by decide) (hts _ (u_Vq_Tb _ k_Tb_12)) (fun _ h9 => h9) rfl (by decide +kernel) rfl rfl (Nat.le_of_ble_eq_true rfl) d_Tb_read_144 (fun H locs hP hD hS => ?_)
            obtain ⟨S_20, eS_20, h⟩ := lf_lX h
            have hP := ly_newP eS_20 hP
            have hD := ly_newD eS_20 hD
            refine lv_aload_n hx hb d_Tb_read_147 rfl (lv_at hl 6 rfl) ?_
            refine lv_iload hx hb d_Tb_read_148 (lv_at hl 0 rfl) ?_
            refine va_put (D := (dC, dI)) (ci := 4) (v := .int r_10) (ty := .int) (C := R_Tb) (T := F_Tb) (N := 10) hx hb hts (fun w h => u_Vq_Tb w (i_Tb w h)) t_Tb t_Tb_ok n_Tb hown hK hP hD hS 3 rfl rfl 7 (by decide) (hts _ (u_Vq_Tb _ k_Tb_13)) (fun _ h9 => h9) rfl (by decide +kernel) rfl rfl (Nat.le_of_ble_eq_true rfl) d_Tb_read_150 (fun H locs hP hD hS => ?_)
            obtain ⟨S_21, eS_21, h⟩ := lf_lX h
            have hP := ly_newP eS_21 hP
            have hD := ly_newD eS_21 hD
            refine lv_iconst (v := 0) hx hb d_Tb_read_153 (by decide) ?_
            refine lv_istore (lv' := [(7, .int 0), (6, .int r_10), (5, .int r_5), (4, .int r_4), (3, .int r_3), (2, .int r_2), (1, .int r_1), (0, .ref M.o_Tb)]) hx hb d_Tb_read_154 hl (by decide) rfl (fun ls hl => ?_)
            exact hB_156 K r_2 r_10 0 S_21 _ _ _ h hP hD hS (lv_sub hl [7, 5, 1, 0] rfl)
          · have h := lf_f h c_14
            exact hB_108 S_10 _ _ _ h hP hD hS (lv_sub hl [] rfl)
    · have h := lf_t h c_9
      exact hB_70 S_6 _ _ _ h hP hD hS (lv_sub hl [] rfl)
set_option maxHeartbeats 4000000 in
set_option maxRecDepth 100000 in
theorem l_Tb_entriesFit (l : Launch) (dC : Nat → ClassId) (dI : Nat → Nat → Nat) {K : Nat} {M : CA} {E : (Nat → Prop) → State → Prop} (X : ly_X l dC dI K M E) (sz : Nat) {Y : CT} {G : CG} {S S' : CS} {r : Int32} (h : f_Tb_entriesFit K G S = some (r, S')) : Met l y_Tb_entriesFit (.code y_Tb_entriesFit cb_Tb_entriesFit 5 (some .boolean) :: V_Vq) ({ frames := 1, cells := 0, slots := 0, locals := 21 }) (va_Pc [.ref M.o_Tb] (fun U => U.heap.size = sz ∧ at_ (dC, dI) (fun _ => True) (wV M Y G S) (tV M) U ∧ E (va_A (wV M Y G S) sz) U)) (va_Qi (fun (r_ : Int32) (u : Unit) => r_ = r) (fun (u : Unit) t => at_ (dC, dI) (va_A (wV M Y G S) sz) (wV M Y G S') (tV M) t) (va_A (wV M Y G S) sz)) 0 0 (va_A (wV M Y G S) sz) := by
  refine Met.ofW (cc := cb_Tb_entriesFit) (maxL := 5) (ret := (some .boolean)) (by decide) rfl ?_
  intro p e s m args below meth c s₁ B hml hv
  obtain ⟨rfl, hsz, ⟨hP, hK, hD0⟩, hE⟩ := hv
  have hx := B.exec
  have hb := B.bytes
  have hr := B.returns
  have hts0 := atoms_spec (ws := .code y_Tb_entriesFit cb_Tb_entriesFit 5 (some .boolean) :: V_Vq) B.pre
  have hts : ∀ w ∈ V_Vq, w.before ([.ref M.o_Tb] : List Value).toArray s = true := fun w h => hts0 w (List.mem_cons_of_mem _ h)
  have hown : s.vm.findClass R_Tb = some m.cls := findClass_of_methodNamed B.named
  subst hsz
  have hD := hD0.self (sz := s.heap.size)
  generalize hAe : va_A (wV M Y G S) s.heap.size = A at hD hE ⊢
  have hA : ∀ q : Nat, s.heap.size ≤ q → A q := fun q h => by rw [← hAe]; exact Or.inr h
  have hS : va_S A s.heap s.heap [] := va_S.rf
  have hP : va_P (dC, dI) classes (wV M Y G S) s.heap := hP
  have hK : va_K (dC, dI) classes (tV M) s := hK
  have hEw : ∀ (H : Heap) (locs : List Loc), va_S A s.heap H locs → ∀ U : State, U.heap = H → s.WarmedH U.vm → E A U := fun H locs hS U hU hW => X.kept A s U H locs hE hS hU hW
  have hl := lv_entry ([.ref M.o_Tb]) (n := 5) (Nat.le_of_ble_eq_true rfl)
  rw [lg_entry_eq]
  generalize (lg_sl ([.ref M.o_Tb]) ++ List.replicate (5 - (lg_sl ([.ref M.o_Tb])).length) Slot.unset).toArray = ls at hl ⊢
  have hl : lv_has ls 5 [(0, .ref M.o_Tb)] := hl
  refine qabs (fun Q hQ => ?_)
  have hB_22 : ∀ (S : CS) (H : Heap) (locs : List Loc) (ls : Array Slot), f_Tb_entriesFit_22 K G S = some (r, S') → va_P (dC, dI) classes (wV M Y G S) H → va_D A (wV M Y G S) → va_S A s.heap H locs → lv_has ls 5 [] → W p l e ({ frames := 1, cells := 0, slots := 0, locals := 21 }) s m ([.ref M.o_Tb] : List Value).toArray below meth c H locs 0 0 Q (F0 m 22 ls []) := by
    intro S H locs ls h hP hD hS hl
    rw [f_Tb_entriesFit_22] at h
    refine lv_iconst (v := 0) hx hb d_Tb_entriesFit_22 (by decide) ?_
    rw [hQ]
    have e1 : (0 : Int32) = r := congrArg Prod.fst (Option.some.inj h)
    have e2 : S = S' := congrArg Prod.snd (Option.some.inj h)
    have hP := ly_newP e2.symm hP
    have hD := ly_newD e2.symm hD
    exact W.zret (v := 0) hx hb hr rfl (fun t ht hW => ⟨⟨0, (), rfl, e1, by rw [ht]; exact hP, va_K.moved hW.alike hK, hD⟩, hS.F ht⟩) hS.2.2 d_Tb_entriesFit_23
  have hB_143 : ∀ (S : CS) (H : Heap) (locs : List Loc) (ls : Array Slot), f_Tb_entriesFit_143 K G S = some (r, S') → va_P (dC, dI) classes (wV M Y G S) H → va_D A (wV M Y G S) → va_S A s.heap H locs → lv_has ls 5 [] → W p l e ({ frames := 1, cells := 0, slots := 0, locals := 21 }) s m ([.ref M.o_Tb] : List Value).toArray below meth c H locs 0 0 Q (F0 m 143 ls []) := by
    intro S H locs ls h hP hD hS hl
    rw [f_Tb_entriesFit_143] at h
    refine lv_iconst (v := 0) hx hb d_Tb_entriesFit_143 (by decide) ?_
    rw [hQ]
    have e1 : (0 : Int32) = r := congrArg Prod.fst (Option.some.inj h)
    have e2 : S = S' := congrArg Prod.snd (Option.some.inj h)
    have hP := ly_newP e2.symm hP
    have hD := ly_newD e2.symm hD
    exact W.zret (v := 0) hx hb hr rfl (fun t ht hW => ⟨⟨0, (), rfl, e1, by rw [ht]; exact hP, va_K.moved hW.alike hK, hD⟩, hS.F ht⟩) hS.2.2 d_Tb_entriesFit_144
  have hB_115 : ∀ (rec_42 : Int32 → Int32 → CS → Option (Int32 × CS)) (hr_42 : ∀ (y_1 : Int32) (y_2 : Int32) (S : CS) (H : Heap) (locs : List Loc) (ls : Array Slot), rec_42 y_1 y_2 S = some (r, S') → va_P (dC, dI) classes (wV M Y G S) H → va_D A (wV M Y G S) → va_S A s.heap H locs → lv_has ls 5 [(0, .ref M.o_Tb), (1, .int y_1), (2, .int y_2)] → W p l e ({ frames := 1, cells := 0, slots := 0, locals := 21 }) s m ([.ref M.o_Tb] : List Value).toArray below meth c H locs 0 0 Q (F0 m 42 ls [])), ∀ (y_1 : Int32) (y_2 : Int32) (y_3 : Int32) (z_0 : Int32) (S : CS) (H : Heap) (locs : List Loc) (ls : Array Slot), f_Tb_entriesFit_115 K G rec_42 y_1 y_2 y_3 z_0 S = some (r, S') → va_P (dC, dI) classes (wV M Y G S) H → va_D A (wV M Y G S) → va_S A s.heap H locs → lv_has ls 5 [(0, .ref M.o_Tb), (1, .int y_1), (2, .int y_2), (3, .int y_3)] → W p l e ({ frames := 1, cells := 0, slots := 0, locals := 21 }) s m ([.ref M.o_Tb] : List Value).toArray below meth c H locs 0 0 Q (F0 m 115 ls [.int z_0]) := by
    intro rec_42 hr_42 y_1 y_2 y_3 z_0 S H locs ls h hP hD hS hl
    rw [f_Tb_entriesFit_115] at h
    refine lv_istore (lv' := [(4, .int z_0), (0, .ref M.o_Tb), (1, .int y_1), (2, .int y_2), (3, .int y_3)]) hx hb d_Tb_entriesFit_115 hl (by decide) rfl (fun ls hl => ?_)
    refine lv_iload hx hb d_Tb_entriesFit_117 (lv_at hl 0 rfl) ?_
    refine lv_if_ne (tgt := 143) hx hb d_Tb_entriesFit_119 (by decide) (fun c_15 => ?_) (fun c_15 => ?_)
    · have h := lf_f h c_15
      exact hB_143 S _ _ _ h hP hD hS (lv_sub hl [] rfl)
    · have h := lf_t h c_15
      refine lv_aload_n hx hb d_Tb_entriesFit_122 rfl (lv_at hl 1 rfl) ?_
      refine va_get (D := (dC, dI)) (ci := 4) (v := .ref M.o_Dk) (C := R_Tb) (T := F_Tb) (N := 10) hx hb hts (fun w h => u_Vq_Tb w (i_Tb w h)) hown hK hP 3 rfl rfl 0 (by decide) (hts _ (u_Vq_Tb _ k_Tb_6)) (fun _ h9 => h9) rfl d_Tb_entriesFit_123 ?_
      refine lv_iload_n hx hb d_Tb_entriesFit_126 rfl (lv_at hl 4 rfl) ?_
      obtain ⟨r_16, S_16, hc_16, h⟩ := lf_cE h
      have hFc := lx_free hD hS hA
      refine va_calli (va_runV (As := [.int y_3]) (rest := []) ⟨hx, hb, hml, hown, hts⟩ (l_Dk_four l dC dI X _ hc_16) (cwV 1 hts (gwV good_Vq (u_Vq_Tb _ k_Tb_24) (u_Vq_Dk _ k_Dk_14) (u_Vq_Dk _ k_Dk_15) (u_Vq_Dk _ k_Dk_0) (wcs (u_Vq_Dk _ k_Dk_16) (fun _ h => h))) rfl rfl rfl (by decide +kernel) ⟨Nat.le_of_ble_eq_true rfl, Nat.le_of_ble_eq_true rfl⟩) (pv_ofE (X.same _) (fun U z1 z2 => X.mono _ _ U hFc (hEw _ _ hS U z1 z2)) hP hK hD (va_recv hK hP (ci := 0) (q0 := 1) rfl rfl)) rfl rfl hl.1 rfl (lv_room (Nat.le_of_ble_eq_true rfl)) d_Tb_entriesFit_127 ⟨by decide, by decide⟩) hS (fun q _ h => hFc q h) hFc (fun r_ u t H locs ht hvm hw hB hz1 hk1 hS => ?_)
      rw [hw]
      obtain ⟨hP, -, hD⟩ := hB
      rw [ht] at hP
      have hD := lx_dj hD hFc
      refine lv_aload_n hx hb d_Tb_entriesFit_130 rfl (lv_at hl 1 rfl) ?_
      refine va_get (D := (dC, dI)) (ci := 4) (v := .ref M.o_Dk) (C := R_Tb) (T := F_Tb) (N := 10) hx hb hts (fun w h => u_Vq_Tb w (i_Tb w h)) hown hK hP 3 rfl rfl 0 (by decide) (hts _ (u_Vq_Tb _ k_Tb_6)) (fun _ h9 => h9) rfl d_Tb_entriesFit_131 ?_
      refine lv_iload_n hx hb d_Tb_entriesFit_134 rfl (lv_at hl 4 rfl) ?_
      refine lv_iload_n hx hb d_Tb_entriesFit_135 rfl (lv_at hl 2 rfl) ?_
      refine lv_iadd hx hb d_Tb_entriesFit_136 ?_
      obtain ⟨r_17, S_17, hc_17, h⟩ := lf_cE h
      have hFc := lx_free hD hS hA
      refine va_calli (va_runV (As := [.int (y_3 + y_1)]) (rest := [.int r_16]) ⟨hx, hb, hml, hown, hts⟩ (l_Dk_four l dC dI X _ hc_17) (cwV 1 hts (gwV good_Vq (u_Vq_Tb _ k_Tb_24) (u_Vq_Dk _ k_Dk_14) (u_Vq_Dk _ k_Dk_15) (u_Vq_Dk _ k_Dk_0) (wcs (u_Vq_Dk _ k_Dk_16) (fun _ h => h))) rfl rfl rfl (by decide +kernel) ⟨Nat.le_of_ble_eq_true rfl, Nat.le_of_ble_eq_true rfl⟩) (pv_ofE (X.same _) (fun U z1 z2 => X.mono _ _ U hFc (hEw _ _ hS U z1 z2)) hP hK hD (va_recv hK hP (ci := 0) (q0 := 1) rfl rfl)) rfl rfl hl.1 rfl (lv_room (Nat.le_of_ble_eq_true rfl)) d_Tb_entriesFit_137 ⟨by decide, by decide⟩) hS (fun q _ h => hFc q h) hFc (fun r_ u t H locs ht hvm hw hB hz1 hk1 hS => ?_)
      rw [hw]
      obtain ⟨hP, -, hD⟩ := hB
      rw [ht] at hP
      have hD := lx_dj hD hFc
      refine lv_icmp_eq (tgt := 145) hx hb d_Tb_entriesFit_140 (by decide) (fun c_18 => ?_) (fun c_18 => ?_)
      · have h := lf_t h c_18
        obtain ⟨x_19, ex_19, h⟩ := lf_lX h
        refine lv_iinc (v := x_19) (lv' := [(2, .int x_19), (4, .int z_0), (0, .ref M.o_Tb), (1, .int y_1), (3, .int y_3)]) hx hb d_Tb_entriesFit_145 hl (k := 3) rfl (by rw [ex_19]; rfl) (by decide) rfl (fun ls hl => ?_)
        refine lv_goto (tgt := 42) hx hb d_Tb_entriesFit_148 (by decide) ?_
        exact hr_42 y_1 x_19 S_17 _ _ _ h hP hD hS (lv_sub hl [2, 3, 0] rfl)
      · have h := lf_f h c_18
        exact hB_143 S_17 _ _ _ h hP hD hS (lv_sub hl [] rfl)
  have hB_110 : ∀ (rec_42 : Int32 → Int32 → CS → Option (Int32 × CS)) (hr_42 : ∀ (y_1 : Int32) (y_2 : Int32) (S : CS) (H : Heap) (locs : List Loc) (ls : Array Slot), rec_42 y_1 y_2 S = some (r, S') → va_P (dC, dI) classes (wV M Y G S) H → va_D A (wV M Y G S) → va_S A s.heap H locs → lv_has ls 5 [(0, .ref M.o_Tb), (1, .int y_1), (2, .int y_2)] → W p l e ({ frames := 1, cells := 0, slots := 0, locals := 21 }) s m ([.ref M.o_Tb] : List Value).toArray below meth c H locs 0 0 Q (F0 m 42 ls [])), ∀ (y_1 : Int32) (y_2 : Int32) (y_3 : Int32) (S : CS) (H : Heap) (locs : List Loc) (ls : Array Slot), f_Tb_entriesFit_110 K G rec_42 y_1 y_2 y_3 S = some (r, S') → va_P (dC, dI) classes (wV M Y G S) H → va_D A (wV M Y G S) → va_S A s.heap H locs → lv_has ls 5 [(0, .ref M.o_Tb), (1, .int y_1), (2, .int y_2), (3, .int y_3)] → W p l e ({ frames := 1, cells := 0, slots := 0, locals := 21 }) s m ([.ref M.o_Tb] : List Value).toArray below meth c H locs 0 0 Q (F0 m 110 ls []) := by
    intro rec_42 hr_42 y_1 y_2 y_3 S H locs ls h hP hD hS hl
    rw [f_Tb_entriesFit_110] at h
    refine lv_iconst (v := 1) hx hb d_Tb_entriesFit_110 (by decide) ?_
    refine lv_goto (tgt := 115) hx hb d_Tb_entriesFit_111 (by decide) ?_
    exact hB_115 _ hr_42 y_1 y_2 y_3 1 S _ _ _ h hP hD hS (lv_sub hl [0, 1, 2, 3] rfl)
  have hB_114 : ∀ (rec_42 : Int32 → Int32 → CS → Option (Int32 × CS)) (hr_42 : ∀ (y_1 : Int32) (y_2 : Int32) (S : CS) (H : Heap) (locs : List Loc) (ls : Array Slot), rec_42 y_1 y_2 S = some (r, S') → va_P (dC, dI) classes (wV M Y G S) H → va_D A (wV M Y G S) → va_S A s.heap H locs → lv_has ls 5 [(0, .ref M.o_Tb), (1, .int y_1), (2, .int y_2)] → W p l e ({ frames := 1, cells := 0, slots := 0, locals := 21 }) s m ([.ref M.o_Tb] : List Value).toArray below meth c H locs 0 0 Q (F0 m 42 ls [])), ∀ (y_1 : Int32) (y_2 : Int32) (y_3 : Int32) (S : CS) (H : Heap) (locs : List Loc) (ls : Array Slot), f_Tb_entriesFit_114 K G rec_42 y_1 y_2 y_3 S = some (r, S') → va_P (dC, dI) classes (wV M Y G S) H → va_D A (wV M Y G S) → va_S A s.heap H locs → lv_has ls 5 [(0, .ref M.o_Tb), (1, .int y_1), (2, .int y_2), (3, .int y_3)] → W p l e ({ frames := 1, cells := 0, slots := 0, locals := 21 }) s m ([.ref M.o_Tb] : List Value).toArray below meth c H locs 0 0 Q (F0 m 114 ls []) := by
    intro rec_42 hr_42 y_1 y_2 y_3 S H locs ls h hP hD hS hl
    rw [f_Tb_entriesFit_114] at h
    refine lv_iconst (v := 0) hx hb d_Tb_entriesFit_114 (by decide) ?_
    exact hB_115 _ hr_42 y_1 y_2 y_3 0 S _ _ _ h hP hD hS (lv_sub hl [0, 1, 2, 3] rfl)
  have hB_151 : ∀ (S : CS) (H : Heap) (locs : List Loc) (ls : Array Slot), f_Tb_entriesFit_151 K G S = some (r, S') → va_P (dC, dI) classes (wV M Y G S) H → va_D A (wV M Y G S) → va_S A s.heap H locs → lv_has ls 5 [] → W p l e ({ frames := 1, cells := 0, slots := 0, locals := 21 }) s m ([.ref M.o_Tb] : List Value).toArray below meth c H locs 0 0 Q (F0 m 151 ls []) := by
    intro S H locs ls h hP hD hS hl
    rw [f_Tb_entriesFit_151] at h
    refine lv_iconst (v := 1) hx hb d_Tb_entriesFit_151 (by decide) ?_
    rw [hQ]
    have e1 : (1 : Int32) = r := congrArg Prod.fst (Option.some.inj h)
    have e2 : S = S' := congrArg Prod.snd (Option.some.inj h)
    have hP := ly_newP e2.symm hP
    have hD := ly_newD e2.symm hD
    exact W.zret (v := 1) hx hb hr rfl (fun t ht hW => ⟨⟨1, (), rfl, e1, by rw [ht]; exact hP, va_K.moved hW.alike hK, hD⟩, hS.F ht⟩) hS.2.2 d_Tb_entriesFit_152
  have hB_42 : ∀ (k : Nat), ∀ (y_1 : Int32) (y_2 : Int32) (S : CS) (H : Heap) (locs : List Loc) (ls : Array Slot), f_Tb_entriesFit_42 K G k y_1 y_2 S = some (r, S') → va_P (dC, dI) classes (wV M Y G S) H → va_D A (wV M Y G S) → va_S A s.heap H locs → lv_has ls 5 [(0, .ref M.o_Tb), (1, .int y_1), (2, .int y_2)] → W p l e ({ frames := 1, cells := 0, slots := 0, locals := 21 }) s m ([.ref M.o_Tb] : List Value).toArray below meth c H locs 0 0 Q (F0 m 42 ls []) := by
    intro k
    induction k with
    | zero => intro y_1 y_2 S H locs ls h; exact lf_no h
    | succ k hr_42 =>
      intro y_1 y_2 S H locs ls h hP hD hS hl
      rw [f_Tb_entriesFit_42] at h
      refine lv_iload_n hx hb d_Tb_entriesFit_42 rfl (lv_at hl 2 rfl) ?_
      refine lv_aload_n hx hb d_Tb_entriesFit_43 rfl (lv_at hl 0 rfl) ?_
      refine va_get (D := (dC, dI)) (ci := 4) (v := .int S.v_Tb_clusters) (C := R_Tb) (T := F_Tb) (N := 10) hx hb hts (fun w h => u_Vq_Tb w (i_Tb w h)) hown hK hP 3 rfl rfl 7 (by decide) (hts _ (u_Vq_Tb _ k_Tb_13)) (fun _ h9 => h9) rfl d_Tb_entriesFit_44 ?_
      refine lv_iconst (v := 2) hx hb d_Tb_entriesFit_47 (by decide) ?_
      refine lv_iadd hx hb d_Tb_entriesFit_48 ?_
      refine lv_icmp_ge (tgt := 151) hx hb d_Tb_entriesFit_49 (by decide) (fun c_6 => ?_) (fun c_6 => ?_)
      · have h := lf_t h c_6
        exact hB_151 S _ _ _ h hP hD hS (lv_sub hl [] rfl)
      · have h := lf_f h c_6
        refine lv_iload_n hx hb d_Tb_entriesFit_52 rfl (lv_at hl 2 rfl) ?_
        refine lv_aload_n hx hb d_Tb_entriesFit_53 rfl (lv_at hl 0 rfl) ?_
        refine va_get (D := (dC, dI)) (ci := 4) (v := .ref M.a_Tb_next) (C := R_Tb) (T := F_Tb) (N := 10) hx hb hts (fun w h => u_Vq_Tb w (i_Tb w h)) hown hK hP 3 rfl rfl 8 (by decide) (hts _ (u_Vq_Tb _ k_Tb_14)) (fun _ h9 => h9) rfl d_Tb_entriesFit_54 ?_
        refine va_alen (v := nI (G.n / 2 + 2)) hx hb hK hP 15 2 rfl rfl rfl d_Tb_entriesFit_57 ?_
        refine lv_icmp_ge (tgt := 151) hx hb d_Tb_entriesFit_58 (by decide) (fun c_7 => ?_) (fun c_7 => ?_)
        · have h := lf_t h c_7
          exact hB_151 S _ _ _ h hP hD hS (lv_sub hl [] rfl)
        · have h := lf_f h c_7
          refine lv_aload_n hx hb d_Tb_entriesFit_61 rfl (lv_at hl 0 rfl) ?_
          refine va_get (D := (dC, dI)) (ci := 4) (v := .int S.v_Tb_before) (C := R_Tb) (T := F_Tb) (N := 10) hx hb hts (fun w h => u_Vq_Tb w (i_Tb w h)) hown hK hP 3 rfl rfl 2 (by decide) (hts _ (u_Vq_Tb _ k_Tb_8)) (fun _ h9 => h9) rfl d_Tb_entriesFit_62 ?_
          refine lv_sipush (v := 512) hx hb d_Tb_entriesFit_65 (by decide) ?_
          refine lv_imul hx hb d_Tb_entriesFit_68 ?_
          refine lv_iconst (v := 4) hx hb d_Tb_entriesFit_69 (by decide) ?_
          refine lv_iload_n hx hb d_Tb_entriesFit_70 rfl (lv_at hl 2 rfl) ?_
          refine lv_imul hx hb d_Tb_entriesFit_71 ?_
          refine lv_iadd hx hb d_Tb_entriesFit_72 ?_
          refine lv_topi (fun x_8 ex_8 => ?_)
          have h := lf_lE h ex_8
          refine lv_istore_n (lv' := [(3, .int x_8), (0, .ref M.o_Tb), (1, .int y_1), (2, .int y_2)]) hx hb d_Tb_entriesFit_73 rfl hl (by decide) rfl (fun ls hl => ?_)
          refine lv_aload_n hx hb d_Tb_entriesFit_74 rfl (lv_at hl 1 rfl) ?_
          refine va_get (D := (dC, dI)) (ci := 4) (v := .ref M.a_Tb_next) (C := R_Tb) (T := F_Tb) (N := 10) hx hb hts (fun w h => u_Vq_Tb w (i_Tb w h)) hown hK hP 3 rfl rfl 8 (by decide) (hts _ (u_Vq_Tb _ k_Tb_14)) (fun _ h9 => h9) rfl d_Tb_entriesFit_75 ?_
          refine lv_iload_n hx hb d_Tb_entriesFit_78 rfl (lv_at hl 3 rfl) ?_
          obtain ⟨g_9, h⟩ := lf_gE h
          refine va_iald hx hb hK hP 15 2 rfl rfl g_9 d_Tb_entriesFit_79 ?_
          refine lv_iconst (v := 1) hx hb d_Tb_entriesFit_80 (by decide) ?_
          refine lv_icmp_eq (tgt := 110) hx hb d_Tb_entriesFit_81 (by decide) (fun c_10 => ?_) (fun c_10 => ?_)
          · have h := lf_t h c_10
            exact hB_110 _ hr_42 y_1 y_2 x_8 S _ _ _ h hP hD hS (lv_sub hl [1, 2, 3, 0] rfl)
          · have h := lf_f h c_10
            refine lv_aload_n hx hb d_Tb_entriesFit_84 rfl (lv_at hl 1 rfl) ?_
            refine va_get (D := (dC, dI)) (ci := 4) (v := .ref M.a_Tb_next) (C := R_Tb) (T := F_Tb) (N := 10) hx hb hts (fun w h => u_Vq_Tb w (i_Tb w h)) hown hK hP 3 rfl rfl 8 (by decide) (hts _ (u_Vq_Tb _ k_Tb_14)) (fun _ h9 => h9) rfl d_Tb_entriesFit_85 ?_
            refine lv_iload_n hx hb d_Tb_entriesFit_88 rfl (lv_at hl 3 rfl) ?_
            obtain ⟨g_11, h⟩ := lf_gE h
            refine va_iald hx hb hK hP 15 2 rfl rfl g_11 d_Tb_entriesFit_89 ?_
            refine lv_aload_n hx hb d_Tb_entriesFit_90 rfl (lv_at hl 1 rfl) ?_
            refine va_get (D := (dC, dI)) (ci := 4) (v := .int S.v_Tb_clusters) (C := R_Tb) (T := F_Tb) (N := 10) hx hb hts (fun w h => u_Vq_Tb w (i_Tb w h)) hown hK hP 3 rfl rfl 7 (by decide) (hts _ (u_Vq_Tb _ k_Tb_13)) (fun _ h9 => h9) rfl d_Tb_entriesFit_91 ?_
            refine lv_iconst (v := 1) hx hb d_Tb_entriesFit_94 (by decide) ?_
            refine lv_iadd hx hb d_Tb_entriesFit_95 ?_
            refine lv_icmp_le (tgt := 114) hx hb d_Tb_entriesFit_96 (by decide) (fun c_12 => ?_) (fun c_12 => ?_)
            · have h := lf_t h c_12
              exact hB_114 _ hr_42 y_1 y_2 x_8 S _ _ _ h hP hD hS (lv_sub hl [1, 2, 3, 0] rfl)
            · have h := lf_f h c_12
              refine lv_aload_n hx hb d_Tb_entriesFit_99 rfl (lv_at hl 1 rfl) ?_
              refine va_get (D := (dC, dI)) (ci := 4) (v := .ref M.a_Tb_next) (C := R_Tb) (T := F_Tb) (N := 10) hx hb hts (fun w h => u_Vq_Tb w (i_Tb w h)) hown hK hP 3 rfl rfl 8 (by decide) (hts _ (u_Vq_Tb _ k_Tb_14)) (fun _ h9 => h9) rfl d_Tb_entriesFit_100 ?_
              refine lv_iload_n hx hb d_Tb_entriesFit_103 rfl (lv_at hl 3 rfl) ?_
              obtain ⟨g_13, h⟩ := lf_gE h
              refine va_iald hx hb hK hP 15 2 rfl rfl g_13 d_Tb_entriesFit_104 ?_
              refine lv_ldc (v := 268435448) hx hb hown (hts _ (u_Vq_Tb _ k_Tb_42)) d_Tb_entriesFit_105 ?_
              refine lv_icmp_ge (tgt := 114) hx hb d_Tb_entriesFit_107 (by decide) (fun c_14 => ?_) (fun c_14 => ?_)
              · have h := lf_t h c_14
                exact hB_114 _ hr_42 y_1 y_2 x_8 S _ _ _ h hP hD hS (lv_sub hl [1, 2, 3, 0] rfl)
              · have h := lf_f h c_14
                exact hB_110 _ hr_42 y_1 y_2 x_8 S _ _ _ h hP hD hS (lv_sub hl [1, 2, 3, 0] rfl)
  rw [f_Tb_entriesFit] at h
  refine lv_aload_n hx hb d_Tb_entriesFit_0 rfl (lv_at hl 0 rfl) ?_
  refine va_get (D := (dC, dI)) (ci := 4) (v := .ref M.a_Tb_next) (C := R_Tb) (T := F_Tb) (N := 10) hx hb hts (fun w h => u_Vq_Tb w (i_Tb w h)) hown hK hP 3 rfl rfl 8 (by decide) (hts _ (u_Vq_Tb _ k_Tb_14)) (fun _ h9 => h9) rfl d_Tb_entriesFit_1 ?_
  refine lv_iconst (v := 0) hx hb d_Tb_entriesFit_4 (by decide) ?_
  obtain ⟨g_1, h⟩ := lf_gE h
  refine va_iald hx hb hK hP 15 2 rfl rfl g_1 d_Tb_entriesFit_5 ?_
  refine lv_ldc (v := 268435448) hx hb hown (hts _ (u_Vq_Tb _ k_Tb_42)) d_Tb_entriesFit_6 ?_
  refine lv_icmp_ne (tgt := 22) hx hb d_Tb_entriesFit_8 (by decide) (fun c_2 => ?_) (fun c_2 => ?_)
  · have h := lf_f h c_2
    exact hB_22 S _ _ _ h hP hD hS (lv_sub hl [] rfl)
  · have h := lf_t h c_2
    refine lv_aload_n hx hb d_Tb_entriesFit_11 rfl (lv_at hl 0 rfl) ?_
    refine va_get (D := (dC, dI)) (ci := 4) (v := .ref M.a_Tb_next) (C := R_Tb) (T := F_Tb) (N := 10) hx hb hts (fun w h => u_Vq_Tb w (i_Tb w h)) hown hK hP 3 rfl rfl 8 (by decide) (hts _ (u_Vq_Tb _ k_Tb_14)) (fun _ h9 => h9) rfl d_Tb_entriesFit_12 ?_
    refine lv_iconst (v := 1) hx hb d_Tb_entriesFit_15 (by decide) ?_
    obtain ⟨g_3, h⟩ := lf_gE h
    refine va_iald hx hb hK hP 15 2 rfl rfl g_3 d_Tb_entriesFit_16 ?_
    refine lv_ldc (v := 268435455) hx hb hown (hts _ (u_Vq_Tb _ k_Tb_38)) d_Tb_entriesFit_17 ?_
    refine lv_icmp_eq (tgt := 24) hx hb d_Tb_entriesFit_19 (by decide) (fun c_4 => ?_) (fun c_4 => ?_)
    · have h := lf_t h c_4
      refine lv_aload_n hx hb d_Tb_entriesFit_24 rfl (lv_at hl 0 rfl) ?_
      refine va_get (D := (dC, dI)) (ci := 4) (v := .int S.v_Tb_copies) (C := R_Tb) (T := F_Tb) (N := 10) hx hb hts (fun w h => u_Vq_Tb w (i_Tb w h)) hown hK hP 3 rfl rfl 3 (by decide) (hts _ (u_Vq_Tb _ k_Tb_9)) (fun _ h9 => h9) rfl d_Tb_entriesFit_25 ?_
      refine lv_iconst (v := 1) hx hb d_Tb_entriesFit_28 (by decide) ?_
      refine lv_isub hx hb d_Tb_entriesFit_29 ?_
      refine lv_aload_n hx hb d_Tb_entriesFit_30 rfl (lv_at hl 0 rfl) ?_
      refine va_get (D := (dC, dI)) (ci := 4) (v := .int S.v_Tb_length) (C := R_Tb) (T := F_Tb) (N := 10) hx hb hts (fun w h => u_Vq_Tb w (i_Tb w h)) hown hK hP 3 rfl rfl 4 (by decide) (hts _ (u_Vq_Tb _ k_Tb_10)) (fun _ h9 => h9) rfl d_Tb_entriesFit_31 ?_
      refine lv_imul hx hb d_Tb_entriesFit_34 ?_
      refine lv_sipush (v := 512) hx hb d_Tb_entriesFit_35 (by decide) ?_
      refine lv_imul hx hb d_Tb_entriesFit_38 ?_
      refine lv_topi (fun x_5 ex_5 => ?_)
      have h := lf_lE h ex_5
      refine lv_istore_n (lv' := [(1, .int x_5), (0, .ref M.o_Tb)]) hx hb d_Tb_entriesFit_39 rfl hl (by decide) rfl (fun ls hl => ?_)
      refine lv_iconst (v := 0) hx hb d_Tb_entriesFit_40 (by decide) ?_
      refine lv_istore_n (lv' := [(2, .int 0), (1, .int x_5), (0, .ref M.o_Tb)]) hx hb d_Tb_entriesFit_41 rfl hl (by decide) rfl (fun ls hl => ?_)
      exact hB_42 K x_5 0 S _ _ _ h hP hD hS (lv_sub hl [2, 1, 0] rfl)
    · have h := lf_f h c_4
      exact hB_22 S _ _ _ h hP hD hS (lv_sub hl [] rfl)
set_option maxHeartbeats 4000000 in
set_option maxRecDepth 100000 in
theorem l_Tb_hasCluster (l : Launch) (dC : Nat → ClassId) (dI : Nat → Nat → Nat) {K : Nat} {M : CA} {E : (Nat → Prop) → State → Prop} (X : ly_X l dC dI K M E) (sz : Nat) {Y : CT} {G : CG} {S S' : CS} {p0 : Int32} {r : Int32} (h : f_Tb_hasCluster K G S p0 = some (r, S')) : Met l y_Tb_hasCluster (.code y_Tb_hasCluster cb_Tb_hasCluster 2 (some .boolean) :: V_Vq) ({ frames := 0, cells := 0, slots := 0, locals := 0 }) (va_Pc [.ref M.o_Tb, .int p0] (fun U => U.heap.size = sz ∧ at_ (dC, dI) (fun _ => True) (wV M Y G S) (tV M) U ∧ E (va_A (wV M Y G S) sz) U)) (va_Qi (fun (r_ : Int32) (u : Unit) => r_ = r) (fun (u : Unit) t => at_ (dC, dI) (va_A (wV M Y G S) sz) (wV M Y G S') (tV M) t) (va_A (wV M Y G S) sz)) 0 0 (va_A (wV M Y G S) sz) := by
  refine Met.ofW (cc := cb_Tb_hasCluster) (maxL := 2) (ret := (some .boolean)) (by decide) rfl ?_
  intro p e s m args below meth c s₁ B hml hv
  obtain ⟨rfl, hsz, ⟨hP, hK, hD0⟩, hE⟩ := hv
  have hx := B.exec
  have hb := B.bytes
  have hr := B.returns
  have hts0 := atoms_spec (ws := .code y_Tb_hasCluster cb_Tb_hasCluster 2 (some .boolean) :: V_Vq) B.pre
  have hts : ∀ w ∈ V_Vq, w.before ([.ref M.o_Tb, .int p0] : List Value).toArray s = true := fun w h => hts0 w (List.mem_cons_of_mem _ h)
  have hown : s.vm.findClass R_Tb = some m.cls := findClass_of_methodNamed B.named
  subst hsz
  have hD := hD0.self (sz := s.heap.size)
  generalize hAe : va_A (wV M Y G S) s.heap.size = A at hD hE ⊢
  have hA : ∀ q : Nat, s.heap.size ≤ q → A q := fun q h => by rw [← hAe]; exact Or.inr h
  have hS : va_S A s.heap s.heap [] := va_S.rf
  have hP : va_P (dC, dI) classes (wV M Y G S) s.heap := hP
  have hK : va_K (dC, dI) classes (tV M) s := hK
  have hEw : ∀ (H : Heap) (locs : List Loc), va_S A s.heap H locs → ∀ U : State, U.heap = H → s.WarmedH U.vm → E A U := fun H locs hS U hU hW => X.kept A s U H locs hE hS hU hW
  have hl := lv_entry ([.ref M.o_Tb, .int p0]) (n := 2) (Nat.le_of_ble_eq_true rfl)
  rw [lg_entry_eq]
  generalize (lg_sl ([.ref M.o_Tb, .int p0]) ++ List.replicate (2 - (lg_sl ([.ref M.o_Tb, .int p0])).length) Slot.unset).toArray = ls at hl ⊢
  have hl : lv_has ls 2 [(0, .ref M.o_Tb), (1, .int p0)] := hl
  refine qabs (fun Q hQ => ?_)
  have hB_28 : ∀ (S : CS) (H : Heap) (locs : List Loc) (ls : Array Slot), f_Tb_hasCluster_28 K G S = some (r, S') → va_P (dC, dI) classes (wV M Y G S) H → va_D A (wV M Y G S) → va_S A s.heap H locs → lv_has ls 2 [] → W p l e ({ frames := 0, cells := 0, slots := 0, locals := 0 }) s m ([.ref M.o_Tb, .int p0] : List Value).toArray below meth c H locs 0 0 Q (F0 m 28 ls []) := by
    intro S H locs ls h hP hD hS hl
    rw [f_Tb_hasCluster_28] at h
    refine lv_iconst (v := 0) hx hb d_Tb_hasCluster_28 (by decide) ?_
    rw [hQ]
    have e1 : (0 : Int32) = r := congrArg Prod.fst (Option.some.inj h)
    have e2 : S = S' := congrArg Prod.snd (Option.some.inj h)
    have hP := ly_newP e2.symm hP
    have hD := ly_newD e2.symm hD
    exact W.zret (v := 0) hx hb hr rfl (fun t ht hW => ⟨⟨0, (), rfl, e1, by rw [ht]; exact hP, va_K.moved hW.alike hK, hD⟩, hS.F ht⟩) hS.2.2 d_Tb_hasCluster_29
  rw [f_Tb_hasCluster] at h
  refine lv_iload_n hx hb d_Tb_hasCluster_0 rfl (lv_at hl 1 rfl) ?_
  refine lv_iconst (v := 2) hx hb d_Tb_hasCluster_1 (by decide) ?_
  refine lv_icmp_lt (tgt := 28) hx hb d_Tb_hasCluster_2 (by decide) (fun c_1 => ?_) (fun c_1 => ?_)
  · have h := lf_t h c_1
    exact hB_28 S _ _ _ h hP hD hS (lv_sub hl [] rfl)
  · have h := lf_f h c_1
    refine lv_iload_n hx hb d_Tb_hasCluster_5 rfl (lv_at hl 1 rfl) ?_
    refine lv_aload_n hx hb d_Tb_hasCluster_6 rfl (lv_at hl 0 rfl) ?_
    refine va_get (D := (dC, dI)) (ci := 4) (v := .int S.v_Tb_clusters) (C := R_Tb) (T := F_Tb) (N := 10) hx hb hts (fun w h => u_Vq_Tb w (i_Tb w h)) hown hK hP 3 rfl rfl 7 (by decide) (hts _ (u_Vq_Tb _ k_Tb_13)) (fun _ h9 => h9) rfl d_Tb_hasCluster_7 ?_
    refine lv_iconst (v := 2) hx hb d_Tb_hasCluster_10 (by decide) ?_
    refine lv_iadd hx hb d_Tb_hasCluster_11 ?_
    refine lv_icmp_ge (tgt := 28) hx hb d_Tb_hasCluster_12 (by decide) (fun c_2 => ?_) (fun c_2 => ?_)
    · have h := lf_t h c_2
      exact hB_28 S _ _ _ h hP hD hS (lv_sub hl [] rfl)
    · have h := lf_f h c_2
      refine lv_iload_n hx hb d_Tb_hasCluster_15 rfl (lv_at hl 1 rfl) ?_
      refine lv_aload_n hx hb d_Tb_hasCluster_16 rfl (lv_at hl 0 rfl) ?_
      refine va_get (D := (dC, dI)) (ci := 4) (v := .ref M.a_Tb_next) (C := R_Tb) (T := F_Tb) (N := 10) hx hb hts (fun w h => u_Vq_Tb w (i_Tb w h)) hown hK hP 3 rfl rfl 8 (by decide) (hts _ (u_Vq_Tb _ k_Tb_14)) (fun _ h9 => h9) rfl d_Tb_hasCluster_17 ?_
      refine va_alen (v := nI (G.n / 2 + 2)) hx hb hK hP 15 2 rfl rfl rfl d_Tb_hasCluster_20 ?_
      refine lv_icmp_ge (tgt := 28) hx hb d_Tb_hasCluster_21 (by decide) (fun c_3 => ?_) (fun c_3 => ?_)
      · have h := lf_t h c_3
        exact hB_28 S _ _ _ h hP hD hS (lv_sub hl [] rfl)
      · have h := lf_f h c_3
        refine lv_iconst (v := 1) hx hb d_Tb_hasCluster_24 (by decide) ?_
        refine lv_goto (tgt := 29) hx hb d_Tb_hasCluster_25 (by decide) ?_
        rw [hQ]
        have e1 : (1 : Int32) = r := congrArg Prod.fst (Option.some.inj h)
        have e2 : S = S' := congrArg Prod.snd (Option.some.inj h)
        have hP := ly_newP e2.symm hP
        have hD := ly_newD e2.symm hD
        exact W.zret (v := 1) hx hb hr rfl (fun t ht hW => ⟨⟨1, (), rfl, e1, by rw [ht]; exact hP, va_K.moved hW.alike hK, hD⟩, hS.F ht⟩) hS.2.2 d_Tb_hasCluster_29
set_option maxHeartbeats 4000000 in
set_option maxRecDepth 100000 in
theorem l_Tb_nextOf (l : Launch) (dC : Nat → ClassId) (dI : Nat → Nat → Nat) {K : Nat} {M : CA} {E : (Nat → Prop) → State → Prop} (X : ly_X l dC dI K M E) (sz : Nat) {Y : CT} {G : CG} {S S' : CS} {p0 : Int32} {r : Int32} (h : f_Tb_nextOf K G S p0 = some (r, S')) : Met l y_Tb_nextOf (.code y_Tb_nextOf cb_Tb_nextOf 2 (some .int) :: V_Vq) ({ frames := 0, cells := 0, slots := 0, locals := 0 }) (va_Pc [.ref M.o_Tb, .int p0] (fun U => U.heap.size = sz ∧ at_ (dC, dI) (fun _ => True) (wV M Y G S) (tV M) U ∧ E (va_A (wV M Y G S) sz) U)) (va_Qi (fun (r_ : Int32) (u : Unit) => r_ = r) (fun (u : Unit) t => at_ (dC, dI) (va_A (wV M Y G S) sz) (wV M Y G S') (tV M) t) (va_A (wV M Y G S) sz)) 0 0 (va_A (wV M Y G S) sz) := by
  refine Met.ofW (cc := cb_Tb_nextOf) (maxL := 2) (ret := (some .int)) (by decide) rfl ?_
  intro p e s m args below meth c s₁ B hml hv
  obtain ⟨rfl, hsz, ⟨hP, hK, hD0⟩, hE⟩ := hv
  have hx := B.exec
  have hb := B.bytes
  have hr := B.returns
  have hts0 := atoms_spec (ws := .code y_Tb_nextOf cb_Tb_nextOf 2 (some .int) :: V_Vq) B.pre
  have hts : ∀ w ∈ V_Vq, w.before ([.ref M.o_Tb, .int p0] : List Value).toArray s = true := fun w h => hts0 w (List.mem_cons_of_mem _ h)
  have hown : s.vm.findClass R_Tb = some m.cls := findClass_of_methodNamed B.named
  subst hsz
  have hD := hD0.self (sz := s.heap.size)
  generalize hAe : va_A (wV M Y G S) s.heap.size = A at hD hE ⊢
  have hA : ∀ q : Nat, s.heap.size ≤ q → A q := fun q h => by rw [← hAe]; exact Or.inr h
  have hS : va_S A s.heap s.heap [] := va_S.rf
  have hP : va_P (dC, dI) classes (wV M Y G S) s.heap := hP
  have hK : va_K (dC, dI) classes (tV M) s := hK
  have hEw : ∀ (H : Heap) (locs : List Loc), va_S A s.heap H locs → ∀ U : State, U.heap = H → s.WarmedH U.vm → E A U := fun H locs hS U hU hW => X.kept A s U H locs hE hS hU hW
  have hl := lv_entry ([.ref M.o_Tb, .int p0]) (n := 2) (Nat.le_of_ble_eq_true rfl)
  rw [lg_entry_eq]
  generalize (lg_sl ([.ref M.o_Tb, .int p0]) ++ List.replicate (2 - (lg_sl ([.ref M.o_Tb, .int p0])).length) Slot.unset).toArray = ls at hl ⊢
  have hl : lv_has ls 2 [(0, .ref M.o_Tb), (1, .int p0)] := hl
  refine qabs (fun Q hQ => ?_)
  have hB_33 : ∀ (S : CS) (H : Heap) (locs : List Loc) (ls : Array Slot), f_Tb_nextOf_33 K G S = some (r, S') → va_P (dC, dI) classes (wV M Y G S) H → va_D A (wV M Y G S) → va_S A s.heap H locs → lv_has ls 2 [] → W p l e ({ frames := 0, cells := 0, slots := 0, locals := 0 }) s m ([.ref M.o_Tb, .int p0] : List Value).toArray below meth c H locs 0 0 Q (F0 m 33 ls []) := by
    intro S H locs ls h hP hD hS hl
    rw [f_Tb_nextOf_33] at h
    refine lv_iconst (v := 0) hx hb d_Tb_nextOf_33 (by decide) ?_
    rw [hQ]
    have e1 : (0 : Int32) = r := congrArg Prod.fst (Option.some.inj h)
    have e2 : S = S' := congrArg Prod.snd (Option.some.inj h)
    have hP := ly_newP e2.symm hP
    have hD := ly_newD e2.symm hD
    exact W.iret (v := 0) hx hb hr (fun t ht hW => ⟨⟨0, (), rfl, e1, by rw [ht]; exact hP, va_K.moved hW.alike hK, hD⟩, hS.F ht⟩) hS.2.2 d_Tb_nextOf_34
  rw [f_Tb_nextOf] at h
  refine lv_iload_n hx hb d_Tb_nextOf_0 rfl (lv_at hl 1 rfl) ?_
  refine lv_iconst (v := 2) hx hb d_Tb_nextOf_1 (by decide) ?_
  refine lv_icmp_lt (tgt := 33) hx hb d_Tb_nextOf_2 (by decide) (fun c_1 => ?_) (fun c_1 => ?_)
  · have h := lf_t h c_1
    exact hB_33 S _ _ _ h hP hD hS (lv_sub hl [] rfl)
  · have h := lf_f h c_1
    refine lv_iload_n hx hb d_Tb_nextOf_5 rfl (lv_at hl 1 rfl) ?_
    refine lv_aload_n hx hb d_Tb_nextOf_6 rfl (lv_at hl 0 rfl) ?_
    refine va_get (D := (dC, dI)) (ci := 4) (v := .int S.v_Tb_clusters) (C := R_Tb) (T := F_Tb) (N := 10) hx hb hts (fun w h => u_Vq_Tb w (i_Tb w h)) hown hK hP 3 rfl rfl 7 (by decide) (hts _ (u_Vq_Tb _ k_Tb_13)) (fun _ h9 => h9) rfl d_Tb_nextOf_7 ?_
    refine lv_iconst (v := 2) hx hb d_Tb_nextOf_10 (by decide) ?_
    refine lv_iadd hx hb d_Tb_nextOf_11 ?_
    refine lv_icmp_ge (tgt := 33) hx hb d_Tb_nextOf_12 (by decide) (fun c_2 => ?_) (fun c_2 => ?_)
    · have h := lf_t h c_2
      exact hB_33 S _ _ _ h hP hD hS (lv_sub hl [] rfl)
    · have h := lf_f h c_2
      refine lv_iload_n hx hb d_Tb_nextOf_15 rfl (lv_at hl 1 rfl) ?_
      refine lv_aload_n hx hb d_Tb_nextOf_16 rfl (lv_at hl 0 rfl) ?_
      refine va_get (D := (dC, dI)) (ci := 4) (v := .ref M.a_Tb_next) (C := R_Tb) (T := F_Tb) (N := 10) hx hb hts (fun w h => u_Vq_Tb w (i_Tb w h)) hown hK hP 3 rfl rfl 8 (by decide) (hts _ (u_Vq_Tb _ k_Tb_14)) (fun _ h9 => h9) rfl d_Tb_nextOf_17 ?_
      refine va_alen (v := nI (G.n / 2 + 2)) hx hb hK hP 15 2 rfl rfl rfl d_Tb_nextOf_20 ?_
      refine lv_icmp_ge (tgt := 33) hx hb d_Tb_nextOf_21 (by decide) (fun c_3 => ?_) (fun c_3 => ?_)
      · have h := lf_t h c_3
        exact hB_33 S _ _ _ h hP hD hS (lv_sub hl [] rfl)
      · have h := lf_f h c_3
        refine lv_aload_n hx hb d_Tb_nextOf_24 rfl (lv_at hl 0 rfl) ?_
        refine va_get (D := (dC, dI)) (ci := 4) (v := .ref M.a_Tb_next) (C := R_Tb) (T := F_Tb) (N := 10) hx hb hts (fun w h => u_Vq_Tb w (i_Tb w h)) hown hK hP 3 rfl rfl 8 (by decide) (hts _ (u_Vq_Tb _ k_Tb_14)) (fun _ h9 => h9) rfl d_Tb_nextOf_25 ?_
        refine lv_iload_n hx hb d_Tb_nextOf_28 rfl (lv_at hl 1 rfl) ?_
        obtain ⟨g_4, h⟩ := lf_gE h
        refine va_iald hx hb hK hP 15 2 rfl rfl g_4 d_Tb_nextOf_29 ?_
        refine lv_goto (tgt := 34) hx hb d_Tb_nextOf_30 (by decide) ?_
        rw [hQ]
        have e1 : (S.w_Tb_next p0.toNatClampNeg) = r := congrArg Prod.fst (Option.some.inj h)
        have e2 : S = S' := congrArg Prod.snd (Option.some.inj h)
        have hP := ly_newP e2.symm hP
        have hD := ly_newD e2.symm hD
        exact W.iret (v := (S.w_Tb_next p0.toNatClampNeg)) hx hb hr (fun t ht hW => ⟨⟨(S.w_Tb_next p0.toNatClampNeg), (), rfl, e1, by rw [ht]; exact hP, va_K.moved hW.alike hK, hD⟩, hS.F ht⟩) hS.2.2 d_Tb_nextOf_34
set_option maxHeartbeats 4000000 in
set_option maxRecDepth 100000 in
theorem l_Tb_setGoal (l : Launch) (dC : Nat → ClassId) (dI : Nat → Nat → Nat) {K : Nat} {M : CA} {E : (Nat → Prop) → State → Prop} (X : ly_X l dC dI K M E) (sz : Nat) {Y : CT} {G : CG} {S S' : CS} {p0 : Int32} {p1 : Int32} (h : f_Tb_setGoal K G S p0 p1 = some S') : Met l y_Tb_setGoal (.code y_Tb_setGoal cb_Tb_setGoal 3 none :: V_Vq) ({ frames := 0, cells := 0, slots := 0, locals := 0 }) (va_Pc [.ref M.o_Tb, .int p0, .int p1] (fun U => U.heap.size = sz ∧ at_ (dC, dI) (fun _ => True) (wV M Y G S) (tV M) U ∧ E (va_A (wV M Y G S) sz) U)) (va_Qv (fun (u : Unit) => True) (fun (u : Unit) t => at_ (dC, dI) (va_A (wV M Y G S) sz) (wV M Y G S') (tV M) t) (va_A (wV M Y G S) sz)) 0 0 (va_A (wV M Y G S) sz) := by
  refine Met.ofW (cc := cb_Tb_setGoal) (maxL := 3) (ret := none) (by decide) rfl ?_
  intro p e s m args below meth c s₁ B hml hv
  obtain ⟨rfl, hsz, ⟨hP, hK, hD0⟩, hE⟩ := hv
  have hx := B.exec
  have hb := B.bytes
  have hr := B.returns
  have hts0 := atoms_spec (ws := .code y_Tb_setGoal cb_Tb_setGoal 3 none :: V_Vq) B.pre
  have hts : ∀ w ∈ V_Vq, w.before ([.ref M.o_Tb, .int p0, .int p1] : List Value).toArray s = true := fun w h => hts0 w (List.mem_cons_of_mem _ h)
  have hown : s.vm.findClass R_Tb = some m.cls := findClass_of_methodNamed B.named
  subst hsz
  have hD := hD0.self (sz := s.heap.size)
  generalize hAe : va_A (wV M Y G S) s.heap.size = A at hD hE ⊢
  have hA : ∀ q : Nat, s.heap.size ≤ q → A q := fun q h => by rw [← hAe]; exact Or.inr h
  have hS : va_S A s.heap s.heap [] := va_S.rf
  have hP : va_P (dC, dI) classes (wV M Y G S) s.heap := hP
  have hK : va_K (dC, dI) classes (tV M) s := hK
  have hEw : ∀ (H : Heap) (locs : List Loc), va_S A s.heap H locs → ∀ U : State, U.heap = H → s.WarmedH U.vm → E A U := fun H locs hS U hU hW => X.kept A s U H locs hE hS hU hW
  have hl := lv_entry ([.ref M.o_Tb, .int p0, .int p1]) (n := 3) (Nat.le_of_ble_eq_true rfl)
  rw [lg_entry_eq]
  generalize (lg_sl ([.ref M.o_Tb, .int p0, .int p1]) ++ List.replicate (3 - (lg_sl ([.ref M.o_Tb, .int p0, .int p1])).length) Slot.unset).toArray = ls at hl ⊢
  have hl : lv_has ls 3 [(0, .ref M.o_Tb), (1, .int p0), (2, .int p1)] := hl
  refine qabs (fun Q hQ => ?_)
  rw [f_Tb_setGoal] at h
  refine lv_iload_n hx hb d_Tb_setGoal_0 rfl (lv_at hl 1 rfl) ?_
  refine lv_if_lt (tgt := 20) hx hb d_Tb_setGoal_1 (by decide) (fun c_1 => ?_) (fun c_1 => ?_)
  · have h := lf_t h c_1
    rw [hQ]
    have e2 : S = S' := Option.some.inj h
    have hP := ly_newP e2.symm hP
    have hD := ly_newD e2.symm hD
    exact W.vret hx hb hr (fun t ht hW => ⟨⟨(), rfl, trivial, by rw [ht]; exact hP, va_K.moved hW.alike hK, hD⟩, hS.F ht⟩) hS.2.2 d_Tb_setGoal_20
  · have h := lf_f h c_1
    refine lv_iload_n hx hb d_Tb_setGoal_4 rfl (lv_at hl 1 rfl) ?_
    refine lv_aload_n hx hb d_Tb_setGoal_5 rfl (lv_at hl 0 rfl) ?_
    refine va_get (D := (dC, dI)) (ci := 4) (v := .ref M.a_Tb_goal) (C := R_Tb) (T := F_Tb) (N := 10) hx hb hts (fun w h => u_Vq_Tb w (i_Tb w h)) hown hK hP 3 rfl rfl 9 (by decide) (hts _ (u_Vq_Tb _ k_Tb_15)) (fun _ h9 => h9) rfl d_Tb_setGoal_6 ?_
    refine va_alen (v := nI (G.n / 2 + 2)) hx hb hK hP 16 2 rfl rfl rfl d_Tb_setGoal_9 ?_
    refine lv_icmp_ge (tgt := 20) hx hb d_Tb_setGoal_10 (by decide) (fun c_2 => ?_) (fun c_2 => ?_)
    · have h := lf_t h c_2
      rw [hQ]
      have e2 : S = S' := Option.some.inj h
      have hP := ly_newP e2.symm hP
      have hD := ly_newD e2.symm hD
      exact W.vret hx hb hr (fun t ht hW => ⟨⟨(), rfl, trivial, by rw [ht]; exact hP, va_K.moved hW.alike hK, hD⟩, hS.F ht⟩) hS.2.2 d_Tb_setGoal_20
    · have h := lf_f h c_2
      refine lv_aload_n hx hb d_Tb_setGoal_13 rfl (lv_at hl 0 rfl) ?_
      refine va_get (D := (dC, dI)) (ci := 4) (v := .ref M.a_Tb_goal) (C := R_Tb) (T := F_Tb) (N := 10) hx hb hts (fun w h => u_Vq_Tb w (i_Tb w h)) hown hK hP 3 rfl rfl 9 (by decide) (hts _ (u_Vq_Tb _ k_Tb_15)) (fun _ h9 => h9) rfl d_Tb_setGoal_14 ?_
      refine lv_iload_n hx hb d_Tb_setGoal_17 rfl (lv_at hl 1 rfl) ?_
      refine lv_iload_n hx hb d_Tb_setGoal_18 rfl (lv_at hl 2 rfl) ?_
      obtain ⟨g_3, h⟩ := lf_gE h
      refine va_iast hx hb hK hP hD hS 16 2 rfl rfl g_3 d_Tb_setGoal_19 (fun H locs hP hD hS => ?_)
      obtain ⟨S_4, eS_4, h⟩ := lf_lX h
      have hP := ly_newP eS_4 hP
      have hD := ly_newD eS_4 hD
      rw [hQ]
      have e2 : S_4 = S' := Option.some.inj h
      have hP := ly_newP e2.symm hP
      have hD := ly_newD e2.symm hD
      exact W.vret hx hb hr (fun t ht hW => ⟨⟨(), rfl, trivial, by rw [ht]; exact hP, va_K.moved hW.alike hK, hD⟩, hS.F ht⟩) hS.2.2 d_Tb_setGoal_20
set_option maxHeartbeats 4000000 in
set_option maxRecDepth 100000 in
theorem l_Tb_goalOf (l : Launch) (dC : Nat → ClassId) (dI : Nat → Nat → Nat) {K : Nat} {M : CA} {E : (Nat → Prop) → State → Prop} (X : ly_X l dC dI K M E) (sz : Nat) {Y : CT} {G : CG} {S S' : CS} {p0 : Int32} {r : Int32} (h : f_Tb_goalOf K G S p0 = some (r, S')) : Met l y_Tb_goalOf (.code y_Tb_goalOf cb_Tb_goalOf 2 (some .int) :: V_Vq) ({ frames := 0, cells := 0, slots := 0, locals := 0 }) (va_Pc [.ref M.o_Tb, .int p0] (fun U => U.heap.size = sz ∧ at_ (dC, dI) (fun _ => True) (wV M Y G S) (tV M) U ∧ E (va_A (wV M Y G S) sz) U)) (va_Qi (fun (r_ : Int32) (u : Unit) => r_ = r) (fun (u : Unit) t => at_ (dC, dI) (va_A (wV M Y G S) sz) (wV M Y G S') (tV M) t) (va_A (wV M Y G S) sz)) 0 0 (va_A (wV M Y G S) sz) := by
  refine Met.ofW (cc := cb_Tb_goalOf) (maxL := 2) (ret := (some .int)) (by decide) rfl ?_
  intro p e s m args below meth c s₁ B hml hv
  obtain ⟨rfl, hsz, ⟨hP, hK, hD0⟩, hE⟩ := hv
  have hx := B.exec
  have hb := B.bytes
  have hr := B.returns
  have hts0 := atoms_spec (ws := .code y_Tb_goalOf cb_Tb_goalOf 2 (some .int) :: V_Vq) B.pre
  have hts : ∀ w ∈ V_Vq, w.before ([.ref M.o_Tb, .int p0] : List Value).toArray s = true := fun w h => hts0 w (List.mem_cons_of_mem _ h)
  have hown : s.vm.findClass R_Tb = some m.cls := findClass_of_methodNamed B.named
  subst hsz
  have hD := hD0.self (sz := s.heap.size)
  generalize hAe : va_A (wV M Y G S) s.heap.size = A at hD hE ⊢
  have hA : ∀ q : Nat, s.heap.size ≤ q → A q := fun q h => by rw [← hAe]; exact Or.inr h
  have hS : va_S A s.heap s.heap [] := va_S.rf
  have hP : va_P (dC, dI) classes (wV M Y G S) s.heap := hP
  have hK : va_K (dC, dI) classes (tV M) s := hK
  have hEw : ∀ (H : Heap) (locs : List Loc), va_S A s.heap H locs → ∀ U : State, U.heap = H → s.WarmedH U.vm → E A U := fun H locs hS U hU hW => X.kept A s U H locs hE hS hU hW
  have hl := lv_entry ([.ref M.o_Tb, .int p0]) (n := 2) (Nat.le_of_ble_eq_true rfl)
  rw [lg_entry_eq]
  generalize (lg_sl ([.ref M.o_Tb, .int p0]) ++ List.replicate (2 - (lg_sl ([.ref M.o_Tb, .int p0])).length) Slot.unset).toArray = ls at hl ⊢
  have hl : lv_has ls 2 [(0, .ref M.o_Tb), (1, .int p0)] := hl
  refine qabs (fun Q hQ => ?_)
  have hB_22 : ∀ (S : CS) (H : Heap) (locs : List Loc) (ls : Array Slot), f_Tb_goalOf_22 K G S = some (r, S') → va_P (dC, dI) classes (wV M Y G S) H → va_D A (wV M Y G S) → va_S A s.heap H locs → lv_has ls 2 [] → W p l e ({ frames := 0, cells := 0, slots := 0, locals := 0 }) s m ([.ref M.o_Tb, .int p0] : List Value).toArray below meth c H locs 0 0 Q (F0 m 22 ls []) := by
    intro S H locs ls h hP hD hS hl
    rw [f_Tb_goalOf_22] at h
    refine lv_iconst (v := 0) hx hb d_Tb_goalOf_22 (by decide) ?_
    rw [hQ]
    have e1 : (0 : Int32) = r := congrArg Prod.fst (Option.some.inj h)
    have e2 : S = S' := congrArg Prod.snd (Option.some.inj h)
    have hP := ly_newP e2.symm hP
    have hD := ly_newD e2.symm hD
    exact W.iret (v := 0) hx hb hr (fun t ht hW => ⟨⟨0, (), rfl, e1, by rw [ht]; exact hP, va_K.moved hW.alike hK, hD⟩, hS.F ht⟩) hS.2.2 d_Tb_goalOf_23
  rw [f_Tb_goalOf] at h
  refine lv_iload_n hx hb d_Tb_goalOf_0 rfl (lv_at hl 1 rfl) ?_
  refine lv_if_lt (tgt := 22) hx hb d_Tb_goalOf_1 (by decide) (fun c_1 => ?_) (fun c_1 => ?_)
  · have h := lf_t h c_1
    exact hB_22 S _ _ _ h hP hD hS (lv_sub hl [] rfl)
  · have h := lf_f h c_1
    refine lv_iload_n hx hb d_Tb_goalOf_4 rfl (lv_at hl 1 rfl) ?_
    refine lv_aload_n hx hb d_Tb_goalOf_5 rfl (lv_at hl 0 rfl) ?_
    refine va_get (D := (dC, dI)) (ci := 4) (v := .ref M.a_Tb_goal) (C := R_Tb) (T := F_Tb) (N := 10) hx hb hts (fun w h => u_Vq_Tb w (i_Tb w h)) hown hK hP 3 rfl rfl 9 (by decide) (hts _ (u_Vq_Tb _ k_Tb_15)) (fun _ h9 => h9) rfl d_Tb_goalOf_6 ?_
    refine va_alen (v := nI (G.n / 2 + 2)) hx hb hK hP 16 2 rfl rfl rfl d_Tb_goalOf_9 ?_
    refine lv_icmp_ge (tgt := 22) hx hb d_Tb_goalOf_10 (by decide) (fun c_2 => ?_) (fun c_2 => ?_)
    · have h := lf_t h c_2
      exact hB_22 S _ _ _ h hP hD hS (lv_sub hl [] rfl)
    · have h := lf_f h c_2
      refine lv_aload_n hx hb d_Tb_goalOf_13 rfl (lv_at hl 0 rfl) ?_
      refine va_get (D := (dC, dI)) (ci := 4) (v := .ref M.a_Tb_goal) (C := R_Tb) (T := F_Tb) (N := 10) hx hb hts (fun w h => u_Vq_Tb w (i_Tb w h)) hown hK hP 3 rfl rfl 9 (by decide) (hts _ (u_Vq_Tb _ k_Tb_15)) (fun _ h9 => h9) rfl d_Tb_goalOf_14 ?_
      refine lv_iload_n hx hb d_Tb_goalOf_17 rfl (lv_at hl 1 rfl) ?_
      obtain ⟨g_3, h⟩ := lf_gE h
      refine va_iald hx hb hK hP 16 2 rfl rfl g_3 d_Tb_goalOf_18 ?_
      refine lv_goto (tgt := 23) hx hb d_Tb_goalOf_19 (by decide) ?_
      rw [hQ]
      have e1 : (S.w_Tb_goal p0.toNatClampNeg) = r := congrArg Prod.fst (Option.some.inj h)
      have e2 : S = S' := congrArg Prod.snd (Option.some.inj h)
      have hP := ly_newP e2.symm hP
      have hD := ly_newD e2.symm hD
      exact W.iret (v := (S.w_Tb_goal p0.toNatClampNeg)) hx hb hr (fun t ht hW => ⟨⟨(S.w_Tb_goal p0.toNatClampNeg), (), rfl, e1, by rw [ht]; exact hP, va_K.moved hW.alike hK, hD⟩, hS.F ht⟩) hS.2.2 d_Tb_goalOf_23
set_option maxHeartbeats 4000000 in
set_option maxRecDepth 100000 in
theorem l_Tb_isFree (l : Launch) (dC : Nat → ClassId) (dI : Nat → Nat → Nat) {K : Nat} {M : CA} {E : (Nat → Prop) → State → Prop} (X : ly_X l dC dI K M E) (sz : Nat) {Y : CT} {G : CG} {S S' : CS} {p0 : Int32} {r : Int32} (h : f_Tb_isFree K G S p0 = some (r, S')) : Met l y_Tb_isFree (.code y_Tb_isFree cb_Tb_isFree 2 (some .boolean) :: V_Vq) ({ frames := 0, cells := 0, slots := 0, locals := 0 }) (va_Pc [.ref M.o_Tb, .int p0] (fun U => U.heap.size = sz ∧ at_ (dC, dI) (fun _ => True) (wV M Y G S) (tV M) U ∧ E (va_A (wV M Y G S) sz) U)) (va_Qi (fun (r_ : Int32) (u : Unit) => r_ = r) (fun (u : Unit) t => at_ (dC, dI) (va_A (wV M Y G S) sz) (wV M Y G S') (tV M) t) (va_A (wV M Y G S) sz)) 0 0 (va_A (wV M Y G S) sz) := by
  refine Met.ofW (cc := cb_Tb_isFree) (maxL := 2) (ret := (some .boolean)) (by decide) rfl ?_
  intro p e s m args below meth c s₁ B hml hv
  obtain ⟨rfl, hsz, ⟨hP, hK, hD0⟩, hE⟩ := hv
  have hx := B.exec
  have hb := B.bytes
  have hr := B.returns
  have hts0 := atoms_spec (ws := .code y_Tb_isFree cb_Tb_isFree 2 (some .boolean) :: V_Vq) B.pre
  have hts : ∀ w ∈ V_Vq, w.before ([.ref M.o_Tb, .int p0] : List Value).toArray s = true := fun w h => hts0 w (List.mem_cons_of_mem _ h)
  have hown : s.vm.findClass R_Tb = some m.cls := findClass_of_methodNamed B.named
  subst hsz
  have hD := hD0.self (sz := s.heap.size)
  generalize hAe : va_A (wV M Y G S) s.heap.size = A at hD hE ⊢
  have hA : ∀ q : Nat, s.heap.size ≤ q → A q := fun q h => by rw [← hAe]; exact Or.inr h
  have hS : va_S A s.heap s.heap [] := va_S.rf
  have hP : va_P (dC, dI) classes (wV M Y G S) s.heap := hP
  have hK : va_K (dC, dI) classes (tV M) s := hK
  have hEw : ∀ (H : Heap) (locs : List Loc), va_S A s.heap H locs → ∀ U : State, U.heap = H → s.WarmedH U.vm → E A U := fun H locs hS U hU hW => X.kept A s U H locs hE hS hU hW
  have hl := lv_entry ([.ref M.o_Tb, .int p0]) (n := 2) (Nat.le_of_ble_eq_true rfl)
  rw [lg_entry_eq]
  generalize (lg_sl ([.ref M.o_Tb, .int p0]) ++ List.replicate (2 - (lg_sl ([.ref M.o_Tb, .int p0])).length) Slot.unset).toArray = ls at hl ⊢
  have hl : lv_has ls 2 [(0, .ref M.o_Tb), (1, .int p0)] := hl
  refine qabs (fun Q hQ => ?_)
  have hB_37 : ∀ (S : CS) (H : Heap) (locs : List Loc) (ls : Array Slot), f_Tb_isFree_37 K G S = some (r, S') → va_P (dC, dI) classes (wV M Y G S) H → va_D A (wV M Y G S) → va_S A s.heap H locs → lv_has ls 2 [] → W p l e ({ frames := 0, cells := 0, slots := 0, locals := 0 }) s m ([.ref M.o_Tb, .int p0] : List Value).toArray below meth c H locs 0 0 Q (F0 m 37 ls []) := by
    intro S H locs ls h hP hD hS hl
    rw [f_Tb_isFree_37] at h
    refine lv_iconst (v := 0) hx hb d_Tb_isFree_37 (by decide) ?_
    rw [hQ]
    have e1 : (0 : Int32) = r := congrArg Prod.fst (Option.some.inj h)
    have e2 : S = S' := congrArg Prod.snd (Option.some.inj h)
    have hP := ly_newP e2.symm hP
    have hD := ly_newD e2.symm hD
    exact W.zret (v := 0) hx hb hr rfl (fun t ht hW => ⟨⟨0, (), rfl, e1, by rw [ht]; exact hP, va_K.moved hW.alike hK, hD⟩, hS.F ht⟩) hS.2.2 d_Tb_isFree_38
  rw [f_Tb_isFree] at h
  refine lv_iload_n hx hb d_Tb_isFree_0 rfl (lv_at hl 1 rfl) ?_
  refine lv_iconst (v := 2) hx hb d_Tb_isFree_1 (by decide) ?_
  refine lv_icmp_lt (tgt := 37) hx hb d_Tb_isFree_2 (by decide) (fun c_1 => ?_) (fun c_1 => ?_)
  · have h := lf_t h c_1
    exact hB_37 S _ _ _ h hP hD hS (lv_sub hl [] rfl)
  · have h := lf_f h c_1
    refine lv_iload_n hx hb d_Tb_isFree_5 rfl (lv_at hl 1 rfl) ?_
    refine lv_aload_n hx hb d_Tb_isFree_6 rfl (lv_at hl 0 rfl) ?_
    refine va_get (D := (dC, dI)) (ci := 4) (v := .int S.v_Tb_clusters) (C := R_Tb) (T := F_Tb) (N := 10) hx hb hts (fun w h => u_Vq_Tb w (i_Tb w h)) hown hK hP 3 rfl rfl 7 (by decide) (hts _ (u_Vq_Tb _ k_Tb_13)) (fun _ h9 => h9) rfl d_Tb_isFree_7 ?_
    refine lv_iconst (v := 2) hx hb d_Tb_isFree_10 (by decide) ?_
    refine lv_iadd hx hb d_Tb_isFree_11 ?_
    refine lv_icmp_ge (tgt := 37) hx hb d_Tb_isFree_12 (by decide) (fun c_2 => ?_) (fun c_2 => ?_)
    · have h := lf_t h c_2
      exact hB_37 S _ _ _ h hP hD hS (lv_sub hl [] rfl)
    · have h := lf_f h c_2
      refine lv_iload_n hx hb d_Tb_isFree_15 rfl (lv_at hl 1 rfl) ?_
      refine lv_aload_n hx hb d_Tb_isFree_16 rfl (lv_at hl 0 rfl) ?_
      refine va_get (D := (dC, dI)) (ci := 4) (v := .ref M.a_Tb_next) (C := R_Tb) (T := F_Tb) (N := 10) hx hb hts (fun w h => u_Vq_Tb w (i_Tb w h)) hown hK hP 3 rfl rfl 8 (by decide) (hts _ (u_Vq_Tb _ k_Tb_14)) (fun _ h9 => h9) rfl d_Tb_isFree_17 ?_
      refine va_alen (v := nI (G.n / 2 + 2)) hx hb hK hP 15 2 rfl rfl rfl d_Tb_isFree_20 ?_
      refine lv_icmp_ge (tgt := 37) hx hb d_Tb_isFree_21 (by decide) (fun c_3 => ?_) (fun c_3 => ?_)
      · have h := lf_t h c_3
        exact hB_37 S _ _ _ h hP hD hS (lv_sub hl [] rfl)
      · have h := lf_f h c_3
        refine lv_aload_n hx hb d_Tb_isFree_24 rfl (lv_at hl 0 rfl) ?_
        refine va_get (D := (dC, dI)) (ci := 4) (v := .ref M.a_Tb_next) (C := R_Tb) (T := F_Tb) (N := 10) hx hb hts (fun w h => u_Vq_Tb w (i_Tb w h)) hown hK hP 3 rfl rfl 8 (by decide) (hts _ (u_Vq_Tb _ k_Tb_14)) (fun _ h9 => h9) rfl d_Tb_isFree_25 ?_
        refine lv_iload_n hx hb d_Tb_isFree_28 rfl (lv_at hl 1 rfl) ?_
        obtain ⟨g_4, h⟩ := lf_gE h
        refine va_iald hx hb hK hP 15 2 rfl rfl g_4 d_Tb_isFree_29 ?_
        refine lv_if_ne (tgt := 37) hx hb d_Tb_isFree_30 (by decide) (fun c_5 => ?_) (fun c_5 => ?_)
        · have h := lf_f h c_5
          exact hB_37 S _ _ _ h hP hD hS (lv_sub hl [] rfl)
        · have h := lf_t h c_5
          refine lv_iconst (v := 1) hx hb d_Tb_isFree_33 (by decide) ?_
          refine lv_goto (tgt := 38) hx hb d_Tb_isFree_34 (by decide) ?_
          rw [hQ]
          have e1 : (1 : Int32) = r := congrArg Prod.fst (Option.some.inj h)
          have e2 : S = S' := congrArg Prod.snd (Option.some.inj h)
          have hP := ly_newP e2.symm hP
          have hD := ly_newD e2.symm hD
          exact W.zret (v := 1) hx hb hr rfl (fun t ht hW => ⟨⟨1, (), rfl, e1, by rw [ht]; exact hP, va_K.moved hW.alike hK, hD⟩, hS.F ht⟩) hS.2.2 d_Tb_isFree_38
set_option maxHeartbeats 4000000 in
set_option maxRecDepth 100000 in
theorem l_Tb_shows (l : Launch) (dC : Nat → ClassId) (dI : Nat → Nat → Nat) {K : Nat} {M : CA} {E : (Nat → Prop) → State → Prop} (X : ly_X l dC dI K M E) (sz : Nat) {Y : CT} {G : CG} {S S' : CS} {p0 : Int32} {r : Int32} (h : f_Tb_shows K G S p0 = some (r, S')) : Met l y_Tb_shows (.code y_Tb_shows cb_Tb_shows 2 (some .boolean) :: V_Vq) ({ frames := 1, cells := 0, slots := 0, locals := 21 }) (va_Pc [.ref M.o_Tb, .int p0] (fun U => U.heap.size = sz ∧ at_ (dC, dI) (fun _ => True) (wV M Y G S) (tV M) U ∧ E (va_A (wV M Y G S) sz) U)) (va_Qi (fun (r_ : Int32) (u : Unit) => r_ = r) (fun (u : Unit) t => at_ (dC, dI) (va_A (wV M Y G S) sz) (wV M Y G S') (tV M) t) (va_A (wV M Y G S) sz)) 0 0 (va_A (wV M Y G S) sz) := by
  refine Met.ofW (cc := cb_Tb_shows) (maxL := 2) (ret := (some .boolean)) (by decide) rfl ?_
  intro p e s m args below meth c s₁ B hml hv
  obtain ⟨rfl, hsz, ⟨hP, hK, hD0⟩, hE⟩ := hv
  have hx := B.exec
  have hb := B.bytes
  have hr := B.returns
  have hts0 := atoms_spec (ws := .code y_Tb_shows cb_Tb_shows 2 (some .boolean) :: V_Vq) B.pre
  have hts : ∀ w ∈ V_Vq, w.before ([.ref M.o_Tb, .int p0] : List Value).toArray s = true := fun w h => hts0 w (List.mem_cons_of_mem _ h)
  have hown : s.vm.findClass R_Tb = some m.cls := findClass_of_methodNamed B.named
  subst hsz
  have hD := hD0.self (sz := s.heap.size)
  generalize hAe : va_A (wV M Y G S) s.heap.size = A at hD hE ⊢
  have hA : ∀ q : Nat, s.heap.size ≤ q → A q := fun q h => by rw [← hAe]; exact Or.inr h
  have hS : va_S A s.heap s.heap [] := va_S.rf
  have hP : va_P (dC, dI) classes (wV M Y G S) s.heap := hP
  have hK : va_K (dC, dI) classes (tV M) s := hK
  have hEw : ∀ (H : Heap) (locs : List Loc), va_S A s.heap H locs → ∀ U : State, U.heap = H → s.WarmedH U.vm → E A U := fun H locs hS U hU hW => X.kept A s U H locs hE hS hU hW
  have hl := lv_entry ([.ref M.o_Tb, .int p0]) (n := 2) (Nat.le_of_ble_eq_true rfl)
  rw [lg_entry_eq]
  generalize (lg_sl ([.ref M.o_Tb, .int p0]) ++ List.replicate (2 - (lg_sl ([.ref M.o_Tb, .int p0])).length) Slot.unset).toArray = ls at hl ⊢
  have hl : lv_has ls 2 [(0, .ref M.o_Tb), (1, .int p0)] := hl
  refine qabs (fun Q hQ => ?_)
  have hB_16 : ∀ (S : CS) (H : Heap) (locs : List Loc) (ls : Array Slot), f_Tb_shows_16 K G S = some (r, S') → va_P (dC, dI) classes (wV M Y G S) H → va_D A (wV M Y G S) → va_S A s.heap H locs → lv_has ls 2 [] → W p l e ({ frames := 1, cells := 0, slots := 0, locals := 21 }) s m ([.ref M.o_Tb, .int p0] : List Value).toArray below meth c H locs 0 0 Q (F0 m 16 ls []) := by
    intro S H locs ls h hP hD hS hl
    rw [f_Tb_shows_16] at h
    refine lv_iconst (v := 1) hx hb d_Tb_shows_16 (by decide) ?_
    rw [hQ]
    have e1 : (1 : Int32) = r := congrArg Prod.fst (Option.some.inj h)
    have e2 : S = S' := congrArg Prod.snd (Option.some.inj h)
    have hP := ly_newP e2.symm hP
    have hD := ly_newD e2.symm hD
    exact W.zret (v := 1) hx hb hr rfl (fun t ht hW => ⟨⟨1, (), rfl, e1, by rw [ht]; exact hP, va_K.moved hW.alike hK, hD⟩, hS.F ht⟩) hS.2.2 d_Tb_shows_17
  rw [f_Tb_shows] at h
  refine lv_iload_n hx hb d_Tb_shows_0 rfl (lv_at hl 1 rfl) ?_
  refine lv_aload_n hx hb d_Tb_shows_1 rfl (lv_at hl 0 rfl) ?_
  refine va_get (D := (dC, dI)) (ci := 4) (v := .int S.v_Tb_start) (C := R_Tb) (T := F_Tb) (N := 10) hx hb hts (fun w h => u_Vq_Tb w (i_Tb w h)) hown hK hP 3 rfl rfl 6 (by decide) (hts _ (u_Vq_Tb _ k_Tb_12)) (fun _ h9 => h9) rfl d_Tb_shows_2 ?_
  refine lv_icmp_lt (tgt := 16) hx hb d_Tb_shows_5 (by decide) (fun c_1 => ?_) (fun c_1 => ?_)
  · have h := lf_t h c_1
    exact hB_16 S _ _ _ h hP hD hS (lv_sub hl [] rfl)
  · have h := lf_f h c_1
    refine lv_aload_n hx hb d_Tb_shows_8 rfl (lv_at hl 0 rfl) ?_
    refine va_get (D := (dC, dI)) (ci := 4) (v := .int S.v_Tb_cluster) (C := R_Tb) (T := F_Tb) (N := 10) hx hb hts (fun w h => u_Vq_Tb w (i_Tb w h)) hown hK hP 3 rfl rfl 1 (by decide) (hts _ (u_Vq_Tb _ k_Tb_7)) (fun _ h9 => h9) rfl d_Tb_shows_9 ?_
    refine lv_iconst (v := 1) hx hb d_Tb_shows_12 (by decide) ?_
    refine lv_icmp_ge (tgt := 18) hx hb d_Tb_shows_13 (by decide) (fun c_2 => ?_) (fun c_2 => ?_)
    · have h := lf_t h c_2
      refine lv_aload_n hx hb d_Tb_shows_18 rfl (lv_at hl 0 rfl) ?_
      refine lv_iload_n hx hb d_Tb_shows_19 rfl (lv_at hl 1 rfl) ?_
      refine lv_aload_n hx hb d_Tb_shows_20 rfl (lv_at hl 0 rfl) ?_
      refine va_get (D := (dC, dI)) (ci := 4) (v := .int S.v_Tb_start) (C := R_Tb) (T := F_Tb) (N := 10) hx hb hts (fun w h => u_Vq_Tb w (i_Tb w h)) hown hK hP 3 rfl rfl 6 (by decide) (hts _ (u_Vq_Tb _ k_Tb_12)) (fun _ h9 => h9) rfl d_Tb_shows_21 ?_
      refine lv_isub hx hb d_Tb_shows_24 ?_
      refine lv_aload_n hx hb d_Tb_shows_25 rfl (lv_at hl 0 rfl) ?_
      refine va_get (D := (dC, dI)) (ci := 4) (v := .int S.v_Tb_cluster) (C := R_Tb) (T := F_Tb) (N := 10) hx hb hts (fun w h => u_Vq_Tb w (i_Tb w h)) hown hK hP 3 rfl rfl 1 (by decide) (hts _ (u_Vq_Tb _ k_Tb_7)) (fun _ h9 => h9) rfl d_Tb_shows_26 ?_
      obtain ⟨g_3, h⟩ := lf_gE h
      refine lv_idiv hx hb d_Tb_shows_29 g_3 ?_
      refine lv_iconst (v := 2) hx hb d_Tb_shows_30 (by decide) ?_
      refine lv_iadd hx hb d_Tb_shows_31 ?_
      obtain ⟨r_4, S_4, hc_4, h⟩ := lf_cE h
      have hFc := lx_free hD hS hA
      refine va_calli (va_runV (As := [.int (((p0 - S.v_Tb_start) / S.v_Tb_cluster) + 2)]) (rest := []) ⟨hx, hb, hml, hown, hts⟩ (l_Tb_nextOf l dC dI X _ hc_4) (cwV 1 hts (gwV good_Vq (u_Vq_Tb _ k_Tb_69) (u_Vq_Tb _ k_Tb_43) (u_Vq_Tb _ k_Tb_44) (u_Vq_Tb _ k_Tb_0) (wcs (u_Vq_Tb _ k_Tb_45) (fun _ h => h))) rfl rfl rfl (by decide +kernel) ⟨Nat.le_of_ble_eq_true rfl, Nat.le_of_ble_eq_true rfl⟩) (pv_ofE (X.same _) (fun U z1 z2 => X.mono _ _ U hFc (hEw _ _ hS U z1 z2)) hP hK hD (va_recv hK hP (ci := 4) (q0 := 3) rfl rfl)) rfl rfl hl.1 rfl (lv_room (Nat.le_of_ble_eq_true rfl)) d_Tb_shows_32 ⟨by decide, by decide⟩) hS (fun q _ h => hFc q h) hFc (fun r_ u t H locs ht hvm hw hB hz1 hk1 hS => ?_)
      rw [hw]
      obtain ⟨hP, -, hD⟩ := hB
      rw [ht] at hP
      have hD := lx_dj hD hFc
      refine lv_if_eq (tgt := 42) hx hb d_Tb_shows_35 (by decide) (fun c_5 => ?_) (fun c_5 => ?_)
      · have h := lf_t h c_5
        refine lv_iconst (v := 0) hx hb d_Tb_shows_42 (by decide) ?_
        rw [hQ]
        have e1 : (0 : Int32) = r := congrArg Prod.fst (Option.some.inj h)
        have e2 : S_4 = S' := congrArg Prod.snd (Option.some.inj h)
        have hP := ly_newP e2.symm hP
        have hD := ly_newD e2.symm hD
        exact W.zret (v := 0) hx hb hr rfl (fun t ht hW => ⟨⟨0, (), rfl, e1, by rw [ht]; exact hP, va_K.moved hW.alike hK, hD⟩, hS.F ht⟩) hS.2.2 d_Tb_shows_43
      · have h := lf_f h c_5
        refine lv_iconst (v := 1) hx hb d_Tb_shows_38 (by decide) ?_
        refine lv_goto (tgt := 43) hx hb d_Tb_shows_39 (by decide) ?_
        rw [hQ]
        have e1 : (1 : Int32) = r := congrArg Prod.fst (Option.some.inj h)
        have e2 : S_4 = S' := congrArg Prod.snd (Option.some.inj h)
        have hP := ly_newP e2.symm hP
        have hD := ly_newD e2.symm hD
        exact W.zret (v := 1) hx hb hr rfl (fun t ht hW => ⟨⟨1, (), rfl, e1, by rw [ht]; exact hP, va_K.moved hW.alike hK, hD⟩, hS.F ht⟩) hS.2.2 d_Tb_shows_43
    · have h := lf_f h c_2
      exact hB_16 S _ _ _ h hP hD hS (lv_sub hl [] rfl)
set_option maxHeartbeats 4000000 in
set_option maxRecDepth 100000 in
theorem l_Tb_clusterBytes (l : Launch) (dC : Nat → ClassId) (dI : Nat → Nat → Nat) {K : Nat} {M : CA} {E : (Nat → Prop) → State → Prop} (X : ly_X l dC dI K M E) (sz : Nat) {Y : CT} {G : CG} {S S' : CS} {r : Int32} (h : f_Tb_clusterBytes K G S = some (r, S')) : Met l y_Tb_clusterBytes (.code y_Tb_clusterBytes cb_Tb_clusterBytes 1 (some .int) :: V_Vq) ({ frames := 0, cells := 0, slots := 0, locals := 0 }) (va_Pc [.ref M.o_Tb] (fun U => U.heap.size = sz ∧ at_ (dC, dI) (fun _ => True) (wV M Y G S) (tV M) U ∧ E (va_A (wV M Y G S) sz) U)) (va_Qi (fun (r_ : Int32) (u : Unit) => r_ = r) (fun (u : Unit) t => at_ (dC, dI) (va_A (wV M Y G S) sz) (wV M Y G S') (tV M) t) (va_A (wV M Y G S) sz)) 0 0 (va_A (wV M Y G S) sz) := by
  refine Met.ofW (cc := cb_Tb_clusterBytes) (maxL := 1) (ret := (some .int)) (by decide) rfl ?_
  intro p e s m args below meth c s₁ B hml hv
  obtain ⟨rfl, hsz, ⟨hP, hK, hD0⟩, hE⟩ := hv
  have hx := B.exec
  have hb := B.bytes
  have hr := B.returns
  have hts0 := atoms_spec (ws := .code y_Tb_clusterBytes cb_Tb_clusterBytes 1 (some .int) :: V_Vq) B.pre
  have hts : ∀ w ∈ V_Vq, w.before ([.ref M.o_Tb] : List Value).toArray s = true := fun w h => hts0 w (List.mem_cons_of_mem _ h)
  have hown : s.vm.findClass R_Tb = some m.cls := findClass_of_methodNamed B.named
  subst hsz
  have hD := hD0.self (sz := s.heap.size)
  generalize hAe : va_A (wV M Y G S) s.heap.size = A at hD hE ⊢
  have hA : ∀ q : Nat, s.heap.size ≤ q → A q := fun q h => by rw [← hAe]; exact Or.inr h
  have hS : va_S A s.heap s.heap [] := va_S.rf
  have hP : va_P (dC, dI) classes (wV M Y G S) s.heap := hP
  have hK : va_K (dC, dI) classes (tV M) s := hK
  have hEw : ∀ (H : Heap) (locs : List Loc), va_S A s.heap H locs → ∀ U : State, U.heap = H → s.WarmedH U.vm → E A U := fun H locs hS U hU hW => X.kept A s U H locs hE hS hU hW
  have hl := lv_entry ([.ref M.o_Tb]) (n := 1) (Nat.le_of_ble_eq_true rfl)
  rw [lg_entry_eq]
  generalize (lg_sl ([.ref M.o_Tb]) ++ List.replicate (1 - (lg_sl ([.ref M.o_Tb])).length) Slot.unset).toArray = ls at hl ⊢
  have hl : lv_has ls 1 [(0, .ref M.o_Tb)] := hl
  refine qabs (fun Q hQ => ?_)
  rw [f_Tb_clusterBytes] at h
  refine lv_aload_n hx hb d_Tb_clusterBytes_0 rfl (lv_at hl 0 rfl) ?_
  refine va_get (D := (dC, dI)) (ci := 4) (v := .int S.v_Tb_cluster) (C := R_Tb) (T := F_Tb) (N := 10) hx hb hts (fun w h => u_Vq_Tb w (i_Tb w h)) hown hK hP 3 rfl rfl 1 (by decide) (hts _ (u_Vq_Tb _ k_Tb_7)) (fun _ h9 => h9) rfl d_Tb_clusterBytes_1 ?_
  refine lv_sipush (v := 512) hx hb d_Tb_clusterBytes_4 (by decide) ?_
  refine lv_imul hx hb d_Tb_clusterBytes_7 ?_
  rw [hQ]
  have e1 : (S.v_Tb_cluster * 512) = r := congrArg Prod.fst (Option.some.inj h)
  have e2 : S = S' := congrArg Prod.snd (Option.some.inj h)
  have hP := ly_newP e2.symm hP
  have hD := ly_newD e2.symm hD
  exact W.iret (v := (S.v_Tb_cluster * 512)) hx hb hr (fun t ht hW => ⟨⟨(S.v_Tb_cluster * 512), (), rfl, e1, by rw [ht]; exact hP, va_K.moved hW.alike hK, hD⟩, hS.F ht⟩) hS.2.2 d_Tb_clusterBytes_8
set_option maxHeartbeats 4000000 in
set_option maxRecDepth 100000 in
theorem l_Tb_slotsOfCluster (l : Launch) (dC : Nat → ClassId) (dI : Nat → Nat → Nat) {K : Nat} {M : CA} {E : (Nat → Prop) → State → Prop} (X : ly_X l dC dI K M E) (sz : Nat) {Y : CT} {G : CG} {S S' : CS} {r : Int32} (h : f_Tb_slotsOfCluster K G S = some (r, S')) : Met l y_Tb_slotsOfCluster (.code y_Tb_slotsOfCluster cb_Tb_slotsOfCluster 1 (some .int) :: V_Vq) ({ frames := 0, cells := 0, slots := 0, locals := 0 }) (va_Pc [.ref M.o_Tb] (fun U => U.heap.size = sz ∧ at_ (dC, dI) (fun _ => True) (wV M Y G S) (tV M) U ∧ E (va_A (wV M Y G S) sz) U)) (va_Qi (fun (r_ : Int32) (u : Unit) => r_ = r) (fun (u : Unit) t => at_ (dC, dI) (va_A (wV M Y G S) sz) (wV M Y G S') (tV M) t) (va_A (wV M Y G S) sz)) 0 0 (va_A (wV M Y G S) sz) := by
  refine Met.ofW (cc := cb_Tb_slotsOfCluster) (maxL := 1) (ret := (some .int)) (by decide) rfl ?_
  intro p e s m args below meth c s₁ B hml hv
  obtain ⟨rfl, hsz, ⟨hP, hK, hD0⟩, hE⟩ := hv
  have hx := B.exec
  have hb := B.bytes
  have hr := B.returns
  have hts0 := atoms_spec (ws := .code y_Tb_slotsOfCluster cb_Tb_slotsOfCluster 1 (some .int) :: V_Vq) B.pre
  have hts : ∀ w ∈ V_Vq, w.before ([.ref M.o_Tb] : List Value).toArray s = true := fun w h => hts0 w (List.mem_cons_of_mem _ h)
  have hown : s.vm.findClass R_Tb = some m.cls := findClass_of_methodNamed B.named
  subst hsz
  have hD := hD0.self (sz := s.heap.size)
  generalize hAe : va_A (wV M Y G S) s.heap.size = A at hD hE ⊢
  have hA : ∀ q : Nat, s.heap.size ≤ q → A q := fun q h => by rw [← hAe]; exact Or.inr h
  have hS : va_S A s.heap s.heap [] := va_S.rf
  have hP : va_P (dC, dI) classes (wV M Y G S) s.heap := hP
  have hK : va_K (dC, dI) classes (tV M) s := hK
  have hEw : ∀ (H : Heap) (locs : List Loc), va_S A s.heap H locs → ∀ U : State, U.heap = H → s.WarmedH U.vm → E A U := fun H locs hS U hU hW => X.kept A s U H locs hE hS hU hW
  have hl := lv_entry ([.ref M.o_Tb]) (n := 1) (Nat.le_of_ble_eq_true rfl)
  rw [lg_entry_eq]
  generalize (lg_sl ([.ref M.o_Tb]) ++ List.replicate (1 - (lg_sl ([.ref M.o_Tb])).length) Slot.unset).toArray = ls at hl ⊢
  have hl : lv_has ls 1 [(0, .ref M.o_Tb)] := hl
  refine qabs (fun Q hQ => ?_)
  rw [f_Tb_slotsOfCluster] at h
  refine lv_aload_n hx hb d_Tb_slotsOfCluster_0 rfl (lv_at hl 0 rfl) ?_
  refine va_get (D := (dC, dI)) (ci := 4) (v := .int S.v_Tb_cluster) (C := R_Tb) (T := F_Tb) (N := 10) hx hb hts (fun w h => u_Vq_Tb w (i_Tb w h)) hown hK hP 3 rfl rfl 1 (by decide) (hts _ (u_Vq_Tb _ k_Tb_7)) (fun _ h9 => h9) rfl d_Tb_slotsOfCluster_1 ?_
  refine lv_bipush (v := 16) hx hb d_Tb_slotsOfCluster_4 (by decide) ?_
  refine lv_imul hx hb d_Tb_slotsOfCluster_6 ?_
  rw [hQ]
  have e1 : (S.v_Tb_cluster * 16) = r := congrArg Prod.fst (Option.some.inj h)
  have e2 : S = S' := congrArg Prod.snd (Option.some.inj h)
  have hP := ly_newP e2.symm hP
  have hD := ly_newD e2.symm hD
  exact W.iret (v := (S.v_Tb_cluster * 16)) hx hb hr (fun t ht hW => ⟨⟨(S.v_Tb_cluster * 16), (), rfl, e1, by rw [ht]; exact hP, va_K.moved hW.alike hK, hD⟩, hS.F ht⟩) hS.2.2 d_Tb_slotsOfCluster_7
set_option maxHeartbeats 4000000 in
set_option maxRecDepth 100000 in
theorem l_Tb_place (l : Launch) (dC : Nat → ClassId) (dI : Nat → Nat → Nat) {K : Nat} {M : CA} {E : (Nat → Prop) → State → Prop} (X : ly_X l dC dI K M E) (sz : Nat) {Y : CT} {G : CG} {S S' : CS} {p0 : Int32} {r : Int32} (h : f_Tb_place K G S p0 = some (r, S')) : Met l y_Tb_place (.code y_Tb_place cb_Tb_place 2 (some .int) :: V_Vq) ({ frames := 0, cells := 0, slots := 0, locals := 0 }) (va_Pc [.ref M.o_Tb, .int p0] (fun U => U.heap.size = sz ∧ at_ (dC, dI) (fun _ => True) (wV M Y G S) (tV M) U ∧ E (va_A (wV M Y G S) sz) U)) (va_Qi (fun (r_ : Int32) (u : Unit) => r_ = r) (fun (u : Unit) t => at_ (dC, dI) (va_A (wV M Y G S) sz) (wV M Y G S') (tV M) t) (va_A (wV M Y G S) sz)) 0 0 (va_A (wV M Y G S) sz) := by
  refine Met.ofW (cc := cb_Tb_place) (maxL := 2) (ret := (some .int)) (by decide) rfl ?_
  intro p e s m args below meth c s₁ B hml hv
  obtain ⟨rfl, hsz, ⟨hP, hK, hD0⟩, hE⟩ := hv
  have hx := B.exec
  have hb := B.bytes
  have hr := B.returns
  have hts0 := atoms_spec (ws := .code y_Tb_place cb_Tb_place 2 (some .int) :: V_Vq) B.pre
  have hts : ∀ w ∈ V_Vq, w.before ([.ref M.o_Tb, .int p0] : List Value).toArray s = true := fun w h => hts0 w (List.mem_cons_of_mem _ h)
  have hown : s.vm.findClass R_Tb = some m.cls := findClass_of_methodNamed B.named
  subst hsz
  have hD := hD0.self (sz := s.heap.size)
  generalize hAe : va_A (wV M Y G S) s.heap.size = A at hD hE ⊢
  have hA : ∀ q : Nat, s.heap.size ≤ q → A q := fun q h => by rw [← hAe]; exact Or.inr h
  have hS : va_S A s.heap s.heap [] := va_S.rf
  have hP : va_P (dC, dI) classes (wV M Y G S) s.heap := hP
  have hK : va_K (dC, dI) classes (tV M) s := hK
  have hEw : ∀ (H : Heap) (locs : List Loc), va_S A s.heap H locs → ∀ U : State, U.heap = H → s.WarmedH U.vm → E A U := fun H locs hS U hU hW => X.kept A s U H locs hE hS hU hW
  have hl := lv_entry ([.ref M.o_Tb, .int p0]) (n := 2) (Nat.le_of_ble_eq_true rfl)
  rw [lg_entry_eq]
  generalize (lg_sl ([.ref M.o_Tb, .int p0]) ++ List.replicate (2 - (lg_sl ([.ref M.o_Tb, .int p0])).length) Slot.unset).toArray = ls at hl ⊢
  have hl : lv_has ls 2 [(0, .ref M.o_Tb), (1, .int p0)] := hl
  refine qabs (fun Q hQ => ?_)
  rw [f_Tb_place] at h
  refine lv_aload_n hx hb d_Tb_place_0 rfl (lv_at hl 0 rfl) ?_
  refine va_get (D := (dC, dI)) (ci := 4) (v := .int S.v_Tb_start) (C := R_Tb) (T := F_Tb) (N := 10) hx hb hts (fun w h => u_Vq_Tb w (i_Tb w h)) hown hK hP 3 rfl rfl 6 (by decide) (hts _ (u_Vq_Tb _ k_Tb_12)) (fun _ h9 => h9) rfl d_Tb_place_1 ?_
  refine lv_iload_n hx hb d_Tb_place_4 rfl (lv_at hl 1 rfl) ?_
  refine lv_iconst (v := 2) hx hb d_Tb_place_5 (by decide) ?_
  refine lv_isub hx hb d_Tb_place_6 ?_
  refine lv_aload_n hx hb d_Tb_place_7 rfl (lv_at hl 0 rfl) ?_
  refine va_get (D := (dC, dI)) (ci := 4) (v := .int S.v_Tb_cluster) (C := R_Tb) (T := F_Tb) (N := 10) hx hb hts (fun w h => u_Vq_Tb w (i_Tb w h)) hown hK hP 3 rfl rfl 1 (by decide) (hts _ (u_Vq_Tb _ k_Tb_7)) (fun _ h9 => h9) rfl d_Tb_place_8 ?_
  refine lv_imul hx hb d_Tb_place_11 ?_
  refine lv_iadd hx hb d_Tb_place_12 ?_
  refine lv_sipush (v := 512) hx hb d_Tb_place_13 (by decide) ?_
  refine lv_imul hx hb d_Tb_place_16 ?_
  rw [hQ]
  have e1 : ((S.v_Tb_start + ((p0 - 2) * S.v_Tb_cluster)) * 512) = r := congrArg Prod.fst (Option.some.inj h)
  have e2 : S = S' := congrArg Prod.snd (Option.some.inj h)
  have hP := ly_newP e2.symm hP
  have hD := ly_newD e2.symm hD
  exact W.iret (v := ((S.v_Tb_start + ((p0 - 2) * S.v_Tb_cluster)) * 512)) hx hb hr (fun t ht hW => ⟨⟨((S.v_Tb_start + ((p0 - 2) * S.v_Tb_cluster)) * 512), (), rfl, e1, by rw [ht]; exact hP, va_K.moved hW.alike hK, hD⟩, hS.F ht⟩) hS.2.2 d_Tb_place_17
set_option maxHeartbeats 4000000 in
set_option maxRecDepth 100000 in
theorem l_Tb_countFree (l : Launch) (dC : Nat → ClassId) (dI : Nat → Nat → Nat) {K : Nat} {M : CA} {E : (Nat → Prop) → State → Prop} (X : ly_X l dC dI K M E) (sz : Nat) {Y : CT} {G : CG} {S S' : CS} {r : Int32} (h : f_Tb_countFree K G S = some (r, S')) : Met l y_Tb_countFree (.code y_Tb_countFree cb_Tb_countFree 3 (some .int) :: V_Vq) ({ frames := 1, cells := 0, slots := 0, locals := 21 }) (va_Pc [.ref M.o_Tb] (fun U => U.heap.size = sz ∧ at_ (dC, dI) (fun _ => True) (wV M Y G S) (tV M) U ∧ E (va_A (wV M Y G S) sz) U)) (va_Qi (fun (r_ : Int32) (u : Unit) => r_ = r) (fun (u : Unit) t => at_ (dC, dI) (va_A (wV M Y G S) sz) (wV M Y G S') (tV M) t) (va_A (wV M Y G S) sz)) 0 0 (va_A (wV M Y G S) sz) := by
  refine Met.ofW (cc := cb_Tb_countFree) (maxL := 3) (ret := (some .int)) (by decide) rfl ?_
  intro p e s m args below meth c s₁ B hml hv
  obtain ⟨rfl, hsz, ⟨hP, hK, hD0⟩, hE⟩ := hv
  have hx := B.exec
  have hb := B.bytes
  have hr := B.returns
  have hts0 := atoms_spec (ws := .code y_Tb_countFree cb_Tb_countFree 3 (some .int) :: V_Vq) B.pre
  have hts : ∀ w ∈ V_Vq, w.before ([.ref M.o_Tb] : List Value).toArray s = true := fun w h => hts0 w (List.mem_cons_of_mem _ h)
  have hown : s.vm.findClass R_Tb = some m.cls := findClass_of_methodNamed B.named
  subst hsz
  have hD := hD0.self (sz := s.heap.size)
  generalize hAe : va_A (wV M Y G S) s.heap.size = A at hD hE ⊢
  have hA : ∀ q : Nat, s.heap.size ≤ q → A q := fun q h => by rw [← hAe]; exact Or.inr h
  have hS : va_S A s.heap s.heap [] := va_S.rf
  have hP : va_P (dC, dI) classes (wV M Y G S) s.heap := hP
  have hK : va_K (dC, dI) classes (tV M) s := hK
  have hEw : ∀ (H : Heap) (locs : List Loc), va_S A s.heap H locs → ∀ U : State, U.heap = H → s.WarmedH U.vm → E A U := fun H locs hS U hU hW => X.kept A s U H locs hE hS hU hW
  have hl := lv_entry ([.ref M.o_Tb]) (n := 3) (Nat.le_of_ble_eq_true rfl)
  rw [lg_entry_eq]
  generalize (lg_sl ([.ref M.o_Tb]) ++ List.replicate (3 - (lg_sl ([.ref M.o_Tb])).length) Slot.unset).toArray = ls at hl ⊢
  have hl : lv_has ls 3 [(0, .ref M.o_Tb)] := hl
  refine qabs (fun Q hQ => ?_)
  have hB_28 : ∀ (rec_4 : Int32 → Int32 → CS → Option (Int32 × CS)) (hr_4 : ∀ (y_1 : Int32) (y_2 : Int32) (S : CS) (H : Heap) (locs : List Loc) (ls : Array Slot), rec_4 y_1 y_2 S = some (r, S') → va_P (dC, dI) classes (wV M Y G S) H → va_D A (wV M Y G S) → va_S A s.heap H locs → lv_has ls 3 [(0, .ref M.o_Tb), (1, .int y_1), (2, .int y_2)] → W p l e ({ frames := 1, cells := 0, slots := 0, locals := 21 }) s m ([.ref M.o_Tb] : List Value).toArray below meth c H locs 0 0 Q (F0 m 4 ls [])), ∀ (y_2 : Int32) (z_0 : Int32) (z_1 : Int32) (S : CS) (H : Heap) (locs : List Loc) (ls : Array Slot), f_Tb_countFree_28 K G rec_4 y_2 z_0 z_1 S = some (r, S') → va_P (dC, dI) classes (wV M Y G S) H → va_D A (wV M Y G S) → va_S A s.heap H locs → lv_has ls 3 [(0, .ref M.o_Tb), (2, .int y_2)] → W p l e ({ frames := 1, cells := 0, slots := 0, locals := 21 }) s m ([.ref M.o_Tb] : List Value).toArray below meth c H locs 0 0 Q (F0 m 28 ls [.int z_1, .int z_0]) := by
    intro rec_4 hr_4 y_2 z_0 z_1 S H locs ls h hP hD hS hl
    rw [f_Tb_countFree_28] at h
    refine lv_iadd hx hb d_Tb_countFree_28 ?_
    refine lv_topi (fun x_4 ex_4 => ?_)
    have h := lf_lE h ex_4
    refine lv_istore_n (lv' := [(1, .int x_4), (0, .ref M.o_Tb), (2, .int y_2)]) hx hb d_Tb_countFree_29 rfl hl (by decide) rfl (fun ls hl => ?_)
    obtain ⟨x_5, ex_5, h⟩ := lf_lX h
    refine lv_iinc (v := x_5) (lv' := [(2, .int x_5), (1, .int x_4), (0, .ref M.o_Tb)]) hx hb d_Tb_countFree_30 hl (k := 2) rfl (by rw [ex_5]; rfl) (by decide) rfl (fun ls hl => ?_)
    refine lv_goto (tgt := 4) hx hb d_Tb_countFree_33 (by decide) ?_
    exact hr_4 x_4 x_5 S _ _ _ h hP hD hS (lv_sub hl [2, 1, 0] rfl)
  have hB_4 : ∀ (k : Nat), ∀ (y_1 : Int32) (y_2 : Int32) (S : CS) (H : Heap) (locs : List Loc) (ls : Array Slot), f_Tb_countFree_4 K G k y_1 y_2 S = some (r, S') → va_P (dC, dI) classes (wV M Y G S) H → va_D A (wV M Y G S) → va_S A s.heap H locs → lv_has ls 3 [(0, .ref M.o_Tb), (1, .int y_1), (2, .int y_2)] → W p l e ({ frames := 1, cells := 0, slots := 0, locals := 21 }) s m ([.ref M.o_Tb] : List Value).toArray below meth c H locs 0 0 Q (F0 m 4 ls []) := by
    intro k
    induction k with
    | zero => intro y_1 y_2 S H locs ls h; exact lf_no h
    | succ k hr_4 =>
      intro y_1 y_2 S H locs ls h hP hD hS hl
      rw [f_Tb_countFree_4] at h
      refine lv_iload_n hx hb d_Tb_countFree_4 rfl (lv_at hl 2 rfl) ?_
      refine lv_aload_n hx hb d_Tb_countFree_5 rfl (lv_at hl 0 rfl) ?_
      refine va_get (D := (dC, dI)) (ci := 4) (v := .int S.v_Tb_clusters) (C := R_Tb) (T := F_Tb) (N := 10) hx hb hts (fun w h => u_Vq_Tb w (i_Tb w h)) hown hK hP 3 rfl rfl 7 (by decide) (hts _ (u_Vq_Tb _ k_Tb_13)) (fun _ h9 => h9) rfl d_Tb_countFree_6 ?_
      refine lv_iconst (v := 2) hx hb d_Tb_countFree_9 (by decide) ?_
      refine lv_iadd hx hb d_Tb_countFree_10 ?_
      refine lv_icmp_ge (tgt := 36) hx hb d_Tb_countFree_11 (by decide) (fun c_1 => ?_) (fun c_1 => ?_)
      · have h := lf_t h c_1
        refine lv_iload_n hx hb d_Tb_countFree_36 rfl (lv_at hl 1 rfl) ?_
        rw [hQ]
        have e1 : y_1 = r := congrArg Prod.fst (Option.some.inj h)
        have e2 : S = S' := congrArg Prod.snd (Option.some.inj h)
        have hP := ly_newP e2.symm hP
        have hD := ly_newD e2.symm hD
        exact W.iret (v := y_1) hx hb hr (fun t ht hW => ⟨⟨y_1, (), rfl, e1, by rw [ht]; exact hP, va_K.moved hW.alike hK, hD⟩, hS.F ht⟩) hS.2.2 d_Tb_countFree_37
      · have h := lf_f h c_1
        refine lv_iload_n hx hb d_Tb_countFree_14 rfl (lv_at hl 1 rfl) ?_
        refine lv_aload_n hx hb d_Tb_countFree_15 rfl (lv_at hl 0 rfl) ?_
        refine lv_iload_n hx hb d_Tb_countFree_16 rfl (lv_at hl 2 rfl) ?_
        obtain ⟨r_2, S_2, hc_2, h⟩ := lf_cE h
        have hFc := lx_free hD hS hA
        refine va_calli (va_runV (As := [.int y_2]) (rest := [.int y_1]) ⟨hx, hb, hml, hown, hts⟩ (l_Tb_isFree l dC dI X _ hc_2) (cwV 1 hts (gwV good_Vq (u_Vq_Tb _ k_Tb_103) (u_Vq_Tb _ k_Tb_63) (u_Vq_Tb _ k_Tb_64) (u_Vq_Tb _ k_Tb_0) (wcs (u_Vq_Tb _ k_Tb_65) (fun _ h => h))) rfl rfl rfl (by decide +kernel) ⟨Nat.le_of_ble_eq_true rfl, Nat.le_of_ble_eq_true rfl⟩) (pv_ofE (X.same _) (fun U z1 z2 => X.mono _ _ U hFc (hEw _ _ hS U z1 z2)) hP hK hD (va_recv hK hP (ci := 4) (q0 := 3) rfl rfl)) rfl rfl hl.1 rfl (lv_room (Nat.le_of_ble_eq_true rfl)) d_Tb_countFree_17 ⟨by decide, by decide⟩) hS (fun q _ h => hFc q h) hFc (fun r_ u t H locs ht hvm hw hB hz1 hk1 hS => ?_)
        rw [hw]
        obtain ⟨hP, -, hD⟩ := hB
        rw [ht] at hP
        have hD := lx_dj hD hFc
        refine lv_if_eq (tgt := 27) hx hb d_Tb_countFree_20 (by decide) (fun c_3 => ?_) (fun c_3 => ?_)
        · have h := lf_t h c_3
          refine lv_iconst (v := 0) hx hb d_Tb_countFree_27 (by decide) ?_
          exact hB_28 _ hr_4 y_2 y_1 0 S_2 _ _ _ h hP hD hS (lv_sub hl [0, 2] rfl)
        · have h := lf_f h c_3
          refine lv_iconst (v := 1) hx hb d_Tb_countFree_23 (by decide) ?_
          refine lv_goto (tgt := 28) hx hb d_Tb_countFree_24 (by decide) ?_
          exact hB_28 _ hr_4 y_2 y_1 1 S_2 _ _ _ h hP hD hS (lv_sub hl [0, 2] rfl)
  rw [f_Tb_countFree] at h
  refine lv_iconst (v := 0) hx hb d_Tb_countFree_0 (by decide) ?_
  refine lv_istore_n (lv' := [(1, .int 0), (0, .ref M.o_Tb)]) hx hb d_Tb_countFree_1 rfl hl (by decide) rfl (fun ls hl => ?_)
  refine lv_iconst (v := 2) hx hb d_Tb_countFree_2 (by decide) ?_
  refine lv_istore_n (lv' := [(2, .int 2), (1, .int 0), (0, .ref M.o_Tb)]) hx hb d_Tb_countFree_3 rfl hl (by decide) rfl (fun ls hl => ?_)
  exact hB_4 K 0 2 S _ _ _ h hP hD hS (lv_sub hl [2, 1, 0] rfl)
set_option maxHeartbeats 4000000 in
set_option maxRecDepth 100000 in
theorem l_Tb_takeFree (l : Launch) (dC : Nat → ClassId) (dI : Nat → Nat → Nat) {K : Nat} {M : CA} {E : (Nat → Prop) → State → Prop} (X : ly_X l dC dI K M E) (sz : Nat) {Y : CT} {G : CG} {S S' : CS} {r : Int32} (h : f_Tb_takeFree K G S = some (r, S')) : Met l y_Tb_takeFree (.code y_Tb_takeFree cb_Tb_takeFree 2 (some .int) :: V_Vq) ({ frames := 3, cells := 0, slots := 0, locals := 68 }) (va_Pc [.ref M.o_Tb] (fun U => U.heap.size = sz ∧ at_ (dC, dI) (fun _ => True) (wV M Y G S) (tV M) U ∧ E (va_A (wV M Y G S) sz) U)) (va_Qi (fun (r_ : Int32) (u : Unit) => r_ = r) (fun (u : Unit) t => at_ (dC, dI) (va_A (wV M Y G S) sz) (wV M Y G S') (tV M) t) (va_A (wV M Y G S) sz)) 0 0 (va_A (wV M Y G S) sz) := by
  refine Met.ofW (cc := cb_Tb_takeFree) (maxL := 2) (ret := (some .int)) (by decide) rfl ?_
  intro p e s m args below meth c s₁ B hml hv
  obtain ⟨rfl, hsz, ⟨hP, hK, hD0⟩, hE⟩ := hv
  have hx := B.exec
  have hb := B.bytes
  have hr := B.returns
  have hts0 := atoms_spec (ws := .code y_Tb_takeFree cb_Tb_takeFree 2 (some .int) :: V_Vq) B.pre
  have hts : ∀ w ∈ V_Vq, w.before ([.ref M.o_Tb] : List Value).toArray s = true := fun w h => hts0 w (List.mem_cons_of_mem _ h)
  have hown : s.vm.findClass R_Tb = some m.cls := findClass_of_methodNamed B.named
  subst hsz
  have hD := hD0.self (sz := s.heap.size)
  generalize hAe : va_A (wV M Y G S) s.heap.size = A at hD hE ⊢
  have hA : ∀ q : Nat, s.heap.size ≤ q → A q := fun q h => by rw [← hAe]; exact Or.inr h
  have hS : va_S A s.heap s.heap [] := va_S.rf
  have hP : va_P (dC, dI) classes (wV M Y G S) s.heap := hP
  have hK : va_K (dC, dI) classes (tV M) s := hK
  have hEw : ∀ (H : Heap) (locs : List Loc), va_S A s.heap H locs → ∀ U : State, U.heap = H → s.WarmedH U.vm → E A U := fun H locs hS U hU hW => X.kept A s U H locs hE hS hU hW
  have hl := lv_entry ([.ref M.o_Tb]) (n := 2) (Nat.le_of_ble_eq_true rfl)
  rw [lg_entry_eq]
  generalize (lg_sl ([.ref M.o_Tb]) ++ List.replicate (2 - (lg_sl ([.ref M.o_Tb])).length) Slot.unset).toArray = ls at hl ⊢
  have hl : lv_has ls 2 [(0, .ref M.o_Tb)] := hl
  refine qabs (fun Q hQ => ?_)
  have hB_2 : ∀ (k : Nat), ∀ (y_1 : Int32) (S : CS) (H : Heap) (locs : List Loc) (ls : Array Slot), f_Tb_takeFree_2 K G k y_1 S = some (r, S') → va_P (dC, dI) classes (wV M Y G S) H → va_D A (wV M Y G S) → va_S A s.heap H locs → lv_has ls 2 [(0, .ref M.o_Tb), (1, .int y_1)] → W p l e ({ frames := 3, cells := 0, slots := 0, locals := 68 }) s m ([.ref M.o_Tb] : List Value).toArray below meth c H locs 0 0 Q (F0 m 2 ls []) := by
    intro k
    induction k with
    | zero => intro y_1 S H locs ls h; exact lf_no h
    | succ k hr_2 =>
      intro y_1 S H locs ls h hP hD hS hl
      rw [f_Tb_takeFree_2] at h
      refine lv_iload_n hx hb d_Tb_takeFree_2 rfl (lv_at hl 1 rfl) ?_
      refine lv_aload_n hx hb d_Tb_takeFree_3 rfl (lv_at hl 0 rfl) ?_
      refine va_get (D := (dC, dI)) (ci := 4) (v := .int S.v_Tb_clusters) (C := R_Tb) (T := F_Tb) (N := 10) hx hb hts (fun w h => u_Vq_Tb w (i_Tb w h)) hown hK hP 3 rfl rfl 7 (by decide) (hts _ (u_Vq_Tb _ k_Tb_13)) (fun _ h9 => h9) rfl d_Tb_takeFree_4 ?_
      refine lv_iconst (v := 2) hx hb d_Tb_takeFree_7 (by decide) ?_
      refine lv_iadd hx hb d_Tb_takeFree_8 ?_
      refine lv_icmp_ge (tgt := 51) hx hb d_Tb_takeFree_9 (by decide) (fun c_1 => ?_) (fun c_1 => ?_)
      · have h := lf_t h c_1
        refine lv_iconst (v := 0) hx hb d_Tb_takeFree_51 (by decide) ?_
        rw [hQ]
        have e1 : (0 : Int32) = r := congrArg Prod.fst (Option.some.inj h)
        have e2 : S = S' := congrArg Prod.snd (Option.some.inj h)
        have hP := ly_newP e2.symm hP
        have hD := ly_newD e2.symm hD
        exact W.iret (v := 0) hx hb hr (fun t ht hW => ⟨⟨0, (), rfl, e1, by rw [ht]; exact hP, va_K.moved hW.alike hK, hD⟩, hS.F ht⟩) hS.2.2 d_Tb_takeFree_52
      · have h := lf_f h c_1
        refine lv_aload_n hx hb d_Tb_takeFree_12 rfl (lv_at hl 0 rfl) ?_
        refine lv_iload_n hx hb d_Tb_takeFree_13 rfl (lv_at hl 1 rfl) ?_
        obtain ⟨r_2, S_2, hc_2, h⟩ := lf_cE h
        have hFc := lx_free hD hS hA
        refine va_calli (va_runV (As := [.int y_1]) (rest := []) ⟨hx, hb, hml, hown, hts⟩ (l_Tb_isFree l dC dI X _ hc_2) (cwV 1 hts (gwV good_Vq (u_Vq_Tb _ k_Tb_103) (u_Vq_Tb _ k_Tb_63) (u_Vq_Tb _ k_Tb_64) (u_Vq_Tb _ k_Tb_0) (wcs (u_Vq_Tb _ k_Tb_65) (fun _ h => h))) rfl rfl rfl (by decide +kernel) ⟨Nat.le_of_ble_eq_true rfl, Nat.le_of_ble_eq_true rfl⟩) (pv_ofE (X.same _) (fun U z1 z2 => X.mono _ _ U hFc (hEw _ _ hS U z1 z2)) hP hK hD (va_recv hK hP (ci := 4) (q0 := 3) rfl rfl)) rfl rfl hl.1 rfl (lv_room (Nat.le_of_ble_eq_true rfl)) d_Tb_takeFree_14 ⟨by decide, by decide⟩) hS (fun q _ h => hFc q h) hFc (fun r_ u t H locs ht hvm hw hB hz1 hk1 hS => ?_)
        rw [hw]
        obtain ⟨hP, -, hD⟩ := hB
        rw [ht] at hP
        have hD := lx_dj hD hFc
        refine lv_if_eq (tgt := 45) hx hb d_Tb_takeFree_17 (by decide) (fun c_3 => ?_) (fun c_3 => ?_)
        · have h := lf_t h c_3
          obtain ⟨x_4, ex_4, h⟩ := lf_lX h
          refine lv_iinc (v := x_4) (lv' := [(1, .int x_4), (0, .ref M.o_Tb)]) hx hb d_Tb_takeFree_45 hl (k := 1) rfl (by rw [ex_4]; rfl) (by decide) rfl (fun ls hl => ?_)
          refine lv_goto (tgt := 2) hx hb d_Tb_takeFree_48 (by decide) ?_
          exact hr_2 x_4 S_2 _ _ _ h hP hD hS (lv_sub hl [1, 0] rfl)
        · have h := lf_f h c_3
          refine lv_aload_n hx hb d_Tb_takeFree_20 rfl (lv_at hl 0 rfl) ?_
          refine lv_iload_n hx hb d_Tb_takeFree_21 rfl (lv_at hl 1 rfl) ?_
          refine lv_ldc (v := 268435455) hx hb hown (hts _ (u_Vq_Tb _ k_Tb_38)) d_Tb_takeFree_22 ?_
          obtain ⟨S_5, hc_5, h⟩ := lf_bE h
          have hFc := lx_free hD hS hA
          refine va_callv (va_runV (As := [.int y_1, .int 268435455]) (rest := []) ⟨hx, hb, hml, hown, hts⟩ (l_Tb_link l dC dI X _ hc_5) (cwV 2 hts (gwV good_Vq (u_Vq_Tb _ k_Tb_91) (u_Vq_Tb _ k_Tb_92) (u_Vq_Tb _ k_Tb_93) (u_Vq_Tb _ k_Tb_0) (wcs (u_Vq_Tb _ k_Tb_94) (fun _ h => h))) rfl rfl rfl (by decide +kernel) ⟨Nat.le_of_ble_eq_true rfl, Nat.le_of_ble_eq_true rfl⟩) (pv_ofE (X.same _) (fun U z1 z2 => X.mono _ _ U hFc (hEw _ _ hS U z1 z2)) hP hK hD (va_recv hK hP (ci := 4) (q0 := 3) rfl rfl)) rfl rfl hl.1 rfl (lv_room (Nat.le_of_ble_eq_true rfl)) d_Tb_takeFree_24 ⟨by decide, by decide⟩) hS (fun q _ h => hFc q h) hFc (fun u t H locs ht hvm hw hB hz1 hk1 hS => ?_)
          obtain ⟨hP, -, hD⟩ := hB
          rw [ht] at hP
          have hD := lx_dj hD hFc
          refine lv_aload_n hx hb d_Tb_takeFree_27 rfl (lv_at hl 0 rfl) ?_
          refine va_get (D := (dC, dI)) (ci := 4) (v := .ref M.o_Dk) (C := R_Tb) (T := F_Tb) (N := 10) hx hb hts (fun w h => u_Vq_Tb w (i_Tb w h)) hown hK hP 3 rfl rfl 0 (by decide) (hts _ (u_Vq_Tb _ k_Tb_6)) (fun _ h9 => h9) rfl d_Tb_takeFree_28 ?_
          refine lv_aload_n hx hb d_Tb_takeFree_31 rfl (lv_at hl 0 rfl) ?_
          refine lv_iload_n hx hb d_Tb_takeFree_32 rfl (lv_at hl 1 rfl) ?_
          obtain ⟨r_6, S_6, hc_6, h⟩ := lf_cE h
          have hFc := lx_free hD hS hA
          refine va_calli (va_runV (As := [.int y_1]) (rest := [.ref M.o_Dk]) ⟨hx, hb, hml, hown, hts⟩ (l_Tb_place l dC dI X _ hc_6) (cwV 1 hts (gwV good_Vq (u_Vq_Tb _ k_Tb_56) (u_Vq_Tb _ k_Tb_57) (u_Vq_Tb _ k_Tb_58) (u_Vq_Tb _ k_Tb_0) (wcs (u_Vq_Tb _ k_Tb_59) (fun _ h => h))) rfl rfl rfl (by decide +kernel) ⟨Nat.le_of_ble_eq_true rfl, Nat.le_of_ble_eq_true rfl⟩) (pv_ofE (X.same _) (fun U z1 z2 => X.mono _ _ U hFc (hEw _ _ hS U z1 z2)) hP hK hD (va_recv hK hP (ci := 4) (q0 := 3) rfl rfl)) rfl rfl hl.1 rfl (lv_room (Nat.le_of_ble_eq_true rfl)) d_Tb_takeFree_33 ⟨by decide, by decide⟩) hS (fun q _ h => hFc q h) hFc (fun r_ u t H locs ht hvm hw hB hz1 hk1 hS => ?_)
          rw [hw]
          obtain ⟨hP, -, hD⟩ := hB
          rw [ht] at hP
          have hD := lx_dj hD hFc
          refine lv_aload_n hx hb d_Tb_takeFree_36 rfl (lv_at hl 0 rfl) ?_
          obtain ⟨r_7, S_7, hc_7, h⟩ := lf_cE h
          have hFc := lx_free hD hS hA
          refine va_calli (va_runV (As := []) (rest := [.int r_6, .ref M.o_Dk]) ⟨hx, hb, hml, hown, hts⟩ (l_Tb_clusterBytes l dC dI X _ hc_7) (cwV 0 hts (gwV good_Vq (u_Vq_Tb _ k_Tb_107) (u_Vq_Tb _ k_Tb_60) (u_Vq_Tb _ k_Tb_61) (u_Vq_Tb _ k_Tb_0) (wcs (u_Vq_Tb _ k_Tb_62) (fun _ h => h))) rfl rfl rfl (by decide +kernel) ⟨Nat.le_of_ble_eq_true rfl, Nat.le_of_ble_eq_true rfl⟩) (pv_ofE (X.same _) (fun U z1 z2 => X.mono _ _ U hFc (hEw _ _ hS U z1 z2)) hP hK hD (va_recv hK hP (ci := 4) (q0 := 3) rfl rfl)) rfl rfl hl.1 rfl (lv_room (Nat.le_of_ble_eq_true rfl)) d_Tb_takeFree_37 ⟨by decide, by decide⟩) hS (fun q _ h => hFc q h) hFc (fun r_ u t H locs ht hvm hw hB hz1 hk1 hS => ?_)
          rw [hw]
          obtain ⟨hP, -, hD⟩ := hB
          rw [ht] at hP
          have hD := lx_dj hD hFc
          obtain ⟨S_8, hc_8, h⟩ := lf_bE h
          have hFc := lx_free hD hS hA
          refine va_callv (va_runV (As := [.int r_6, .int r_7]) (rest := []) ⟨hx, hb, hml, hown, hts⟩ (l_Dk_zero l dC dI X _ hc_8) (cwV 2 hts (gwV good_Vq (u_Vq_Tb _ k_Tb_108) (u_Vq_Dk _ k_Dk_23) (u_Vq_Dk _ k_Dk_24) (u_Vq_Dk _ k_Dk_0) (wcs (u_Vq_Dk _ k_Dk_25) (fun _ h => h))) rfl rfl rfl (by decide +kernel) ⟨Nat.le_of_ble_eq_true rfl, Nat.le_of_ble_eq_true rfl⟩) (pv_ofE (X.same _) (fun U z1 z2 => X.mono _ _ U hFc (hEw _ _ hS U z1 z2)) hP hK hD (va_recv hK hP (ci := 0) (q0 := 1) rfl rfl)) rfl rfl hl.1 rfl (lv_room (Nat.le_of_ble_eq_true rfl)) d_Tb_takeFree_40 ⟨by decide, by decide⟩) hS (fun q _ h => hFc q h) hFc (fun u t H locs ht hvm hw hB hz1 hk1 hS => ?_)
          obtain ⟨hP, -, hD⟩ := hB
          rw [ht] at hP
          have hD := lx_dj hD hFc
          refine lv_iload_n hx hb d_Tb_takeFree_43 rfl (lv_at hl 1 rfl) ?_
          rw [hQ]
          have e1 : y_1 = r := congrArg Prod.fst (Option.some.inj h)
          have e2 : S_8 = S' := congrArg Prod.snd (Option.some.inj h)
          have hP := ly_newP e2.symm hP
          have hD := ly_newD e2.symm hD
          exact W.iret (v := y_1) hx hb hr (fun t ht hW => ⟨⟨y_1, (), rfl, e1, by rw [ht]; exact hP, va_K.moved hW.alike hK, hD⟩, hS.F ht⟩) hS.2.2 d_Tb_takeFree_44
  rw [f_Tb_takeFree] at h
  refine lv_iconst (v := 2) hx hb d_Tb_takeFree_0 (by decide) ?_
  refine lv_istore_n (lv' := [(1, .int 2), (0, .ref M.o_Tb)]) hx hb d_Tb_takeFree_1 rfl hl (by decide) rfl (fun ls hl => ?_)
  exact hB_2 K 2 S _ _ _ h hP hD hS (lv_sub hl [1, 0] rfl)
set_option maxHeartbeats 4000000 in
set_option maxRecDepth 100000 in
theorem l_Tr_has (l : Launch) (dC : Nat → ClassId) (dI : Nat → Nat → Nat) {K : Nat} {M : CA} {E : (Nat → Prop) → State → Prop} (X : ly_X l dC dI K M E) (sz : Nat) {Y : CT} {G : CG} {S S' : CS} {p0 : Int32} {r : Int32} (h : f_Tr_has K G S p0 = some (r, S')) : Met l y_Tr_has (.code y_Tr_has cb_Tr_has 2 (some .boolean) :: V_Vq) ({ frames := 0, cells := 0, slots := 0, locals := 0 }) (va_Pc [.ref M.o_Tr, .int p0] (fun U => U.heap.size = sz ∧ at_ (dC, dI) (fun _ => True) (wV M Y G S) (tV M) U ∧ E (va_A (wV M Y G S) sz) U)) (va_Qi (fun (r_ : Int32) (u : Unit) => r_ = r) (fun (u : Unit) t => at_ (dC, dI) (va_A (wV M Y G S) sz) (wV M Y G S') (tV M) t) (va_A (wV M Y G S) sz)) 0 0 (va_A (wV M Y G S) sz) := by
  refine Met.ofW (cc := cb_Tr_has) (maxL := 2) (ret := (some .boolean)) (by decide) rfl ?_
  intro p e s m args below meth c s₁ B hml hv
  obtain ⟨rfl, hsz, ⟨hP, hK, hD0⟩, hE⟩ := hv
  have hx := B.exec
  have hb := B.bytes
  have hr := B.returns
  have hts0 := atoms_spec (ws := .code y_Tr_has cb_Tr_has 2 (some .boolean) :: V_Vq) B.pre
  have hts : ∀ w ∈ V_Vq, w.before ([.ref M.o_Tr, .int p0] : List Value).toArray s = true := fun w h => hts0 w (List.mem_cons_of_mem _ h)
  have hown : s.vm.findClass R_Tr = some m.cls := findClass_of_methodNamed B.named
  subst hsz
  have hD := hD0.self (sz := s.heap.size)
  generalize hAe : va_A (wV M Y G S) s.heap.size = A at hD hE ⊢
  have hA : ∀ q : Nat, s.heap.size ≤ q → A q := fun q h => by rw [← hAe]; exact Or.inr h
  have hS : va_S A s.heap s.heap [] := va_S.rf
  have hP : va_P (dC, dI) classes (wV M Y G S) s.heap := hP
  have hK : va_K (dC, dI) classes (tV M) s := hK
  have hEw : ∀ (H : Heap) (locs : List Loc), va_S A s.heap H locs → ∀ U : State, U.heap = H → s.WarmedH U.vm → E A U := fun H locs hS U hU hW => X.kept A s U H locs hE hS hU hW
  have hl := lv_entry ([.ref M.o_Tr, .int p0]) (n := 2) (Nat.le_of_ble_eq_true rfl)
  rw [lg_entry_eq]
  generalize (lg_sl ([.ref M.o_Tr, .int p0]) ++ List.replicate (2 - (lg_sl ([.ref M.o_Tr, .int p0])).length) Slot.unset).toArray = ls at hl ⊢
  have hl : lv_has ls 2 [(0, .ref M.o_Tr), (1, .int p0)] := hl
  refine qabs (fun Q hQ => ?_)
  have hB_16 : ∀ (S : CS) (H : Heap) (locs : List Loc) (ls : Array Slot), f_Tr_has_16 K G S = some (r, S') → va_P (dC, dI) classes (wV M Y G S) H → va_D A (wV M Y G S) → va_S A s.heap H locs → lv_has ls 2 [] → W p l e ({ frames := 0, cells := 0, slots := 0, locals := 0 }) s m ([.ref M.o_Tr, .int p0] : List Value).toArray below meth c H locs 0 0 Q (F0 m 16 ls []) := by
    intro S H locs ls h hP hD hS hl
    rw [f_Tr_has_16] at h
    refine lv_iconst (v := 0) hx hb d_Tr_has_16 (by decide) ?_
    rw [hQ]
    have e1 : (0 : Int32) = r := congrArg Prod.fst (Option.some.inj h)
    have e2 : S = S' := congrArg Prod.snd (Option.some.inj h)
    have hP := ly_newP e2.symm hP
    have hD := ly_newD e2.symm hD
    exact W.zret (v := 0) hx hb hr rfl (fun t ht hW => ⟨⟨0, (), rfl, e1, by rw [ht]; exact hP, va_K.moved hW.alike hK, hD⟩, hS.F ht⟩) hS.2.2 d_Tr_has_17
  rw [f_Tr_has] at h
  refine lv_iload_n hx hb d_Tr_has_0 rfl (lv_at hl 1 rfl) ?_
  refine lv_if_lt (tgt := 16) hx hb d_Tr_has_1 (by decide) (fun c_1 => ?_) (fun c_1 => ?_)
  · have h := lf_t h c_1
    exact hB_16 S _ _ _ h hP hD hS (lv_sub hl [] rfl)
  · have h := lf_f h c_1
    refine lv_iload_n hx hb d_Tr_has_4 rfl (lv_at hl 1 rfl) ?_
    refine lv_aload_n hx hb d_Tr_has_5 rfl (lv_at hl 0 rfl) ?_
    refine va_get (D := (dC, dI)) (ci := 5) (v := .int S.v_Tr_count) (C := R_Tr) (T := F_Tr) (N := 18) hx hb hts (fun w h => u_Vq_Tr w (i_Tr w h)) hown hK hP 4 rfl rfl 0 (by decide) (hts _ (u_Vq_Tr _ k_Tr_5)) (fun _ h9 => h9) rfl d_Tr_has_6 ?_
    refine lv_icmp_ge (tgt := 16) hx hb d_Tr_has_9 (by decide) (fun c_2 => ?_) (fun c_2 => ?_)
    · have h := lf_t h c_2
      exact hB_16 S _ _ _ h hP hD hS (lv_sub hl [] rfl)
    · have h := lf_f h c_2
      refine lv_iconst (v := 1) hx hb d_Tr_has_12 (by decide) ?_
      refine lv_goto (tgt := 17) hx hb d_Tr_has_13 (by decide) ?_
      rw [hQ]
      have e1 : (1 : Int32) = r := congrArg Prod.fst (Option.some.inj h)
      have e2 : S = S' := congrArg Prod.snd (Option.some.inj h)
      have hP := ly_newP e2.symm hP
      have hD := ly_newD e2.symm hD
      exact W.zret (v := 1) hx hb hr rfl (fun t ht hW => ⟨⟨1, (), rfl, e1, by rw [ht]; exact hP, va_K.moved hW.alike hK, hD⟩, hS.F ht⟩) hS.2.2 d_Tr_has_17
set_option maxHeartbeats 4000000 in
set_option maxRecDepth 100000 in
theorem l_Tr_place (l : Launch) (dC : Nat → ClassId) (dI : Nat → Nat → Nat) {K : Nat} {M : CA} {E : (Nat → Prop) → State → Prop} (X : ly_X l dC dI K M E) (sz : Nat) {Y : CT} {G : CG} {S S' : CS} {p0 : Int32} {p1 : Int32} {p2 : Int32} {p3 : Int32} {p4 : Int32} (h : f_Tr_place K G S p0 p1 p2 p3 p4 = some S') : Met l y_Tr_place (.code y_Tr_place cb_Tr_place 6 none :: V_Vq) ({ frames := 1, cells := 0, slots := 0, locals := 21 }) (va_Pc [.ref M.o_Tr, .int p0, .int p1, .int p2, .int p3, .int p4] (fun U => U.heap.size = sz ∧ at_ (dC, dI) (fun _ => True) (wV M Y G S) (tV M) U ∧ E (va_A (wV M Y G S) sz) U)) (va_Qv (fun (u : Unit) => True) (fun (u : Unit) t => at_ (dC, dI) (va_A (wV M Y G S) sz) (wV M Y G S') (tV M) t) (va_A (wV M Y G S) sz)) 0 0 (va_A (wV M Y G S) sz) := by
  refine Met.ofW (cc := cb_Tr_place) (maxL := 6) (ret := none) (by decide) rfl ?_
  intro p e s m args below meth c s₁ B hml hv
  obtain ⟨rfl, hsz, ⟨hP, hK, hD0⟩, hE⟩ := hv
  have hx := B.exec
  have hb := B.bytes
  have hr := B.returns
  have hts0 := atoms_spec (ws := .code y_Tr_place cb_Tr_place 6 none :: V_Vq) B.pre
  have hts : ∀ w ∈ V_Vq, w.before ([.ref M.o_Tr, .int p0, .int p1, .int p2, .int p3, .int p4] : List Value).toArray s = true := fun w h => hts0 w (List.mem_cons_of_mem _ h)
  have hown : s.vm.findClass R_Tr = some m.cls := findClass_of_methodNamed B.named
  subst hsz
  have hD := hD0.self (sz := s.heap.size)
  generalize hAe : va_A (wV M Y G S) s.heap.size = A at hD hE ⊢
  have hA : ∀ q : Nat, s.heap.size ≤ q → A q := fun q h => by rw [← hAe]; exact Or.inr h
  have hS : va_S A s.heap s.heap [] := va_S.rf
  have hP : va_P (dC, dI) classes (wV M Y G S) s.heap := hP
  have hK : va_K (dC, dI) classes (tV M) s := hK
  have hEw : ∀ (H : Heap) (locs : List Loc), va_S A s.heap H locs → ∀ U : State, U.heap = H → s.WarmedH U.vm → E A U := fun H locs hS U hU hW => X.kept A s U H locs hE hS hU hW
  have hl := lv_entry ([.ref M.o_Tr, .int p0, .int p1, .int p2, .int p3, .int p4]) (n := 6) (Nat.le_of_ble_eq_true rfl)
  rw [lg_entry_eq]
  generalize (lg_sl ([.ref M.o_Tr, .int p0, .int p1, .int p2, .int p3, .int p4]) ++ List.replicate (6 - (lg_sl ([.ref M.o_Tr, .int p0, .int p1, .int p2, .int p3, .int p4])).length) Slot.unset).toArray = ls at hl ⊢
  have hl : lv_has ls 6 [(0, .ref M.o_Tr), (1, .int p0), (2, .int p1), (3, .int p2), (4, .int p3), (5, .int p4)] := hl
  refine qabs (fun Q hQ => ?_)
  rw [f_Tr_place] at h
  refine lv_aload_n hx hb d_Tr_place_0 rfl (lv_at hl 0 rfl) ?_
  refine lv_iload_n hx hb d_Tr_place_1 rfl (lv_at hl 1 rfl) ?_
  obtain ⟨r_1, S_1, hc_1, h⟩ := lf_cE h
  have hFc := lx_free hD hS hA
  refine va_calli (va_runV (As := [.int p0]) (rest := []) ⟨hx, hb, hml, hown, hts⟩ (l_Tr_has l dC dI X _ hc_1) (cwV 1 hts (gwV good_Vq (u_Vq_Tr _ k_Tr_38) (u_Vq_Tr _ k_Tr_39) (u_Vq_Tr _ k_Tr_40) (u_Vq_Tr _ k_Tr_0) (wcs (u_Vq_Tr _ k_Tr_41) (fun _ h => h))) rfl rfl rfl (by decide +kernel) ⟨Nat.le_of_ble_eq_true rfl, Nat.le_of_ble_eq_true rfl⟩) (pv_ofE (X.same _) (fun U z1 z2 => X.mono _ _ U hFc (hEw _ _ hS U z1 z2)) hP hK hD (va_recv hK hP (ci := 5) (q0 := 4) rfl rfl)) rfl rfl hl.1 rfl (lv_room (Nat.le_of_ble_eq_true rfl)) d_Tr_place_2 ⟨by decide, by decide⟩) hS (fun q _ h => hFc q h) hFc (fun r_ u t H locs ht hvm hw hB hz1 hk1 hS => ?_)
  rw [hw]
  obtain ⟨hP, -, hD⟩ := hB
  rw [ht] at hP
  have hD := lx_dj hD hFc
  refine lv_if_eq (tgt := 38) hx hb d_Tr_place_5 (by decide) (fun c_2 => ?_) (fun c_2 => ?_)
  · have h := lf_t h c_2
    rw [hQ]
    have e2 : S_1 = S' := Option.some.inj h
    have hP := ly_newP e2.symm hP
    have hD := ly_newD e2.symm hD
    exact W.vret hx hb hr (fun t ht hW => ⟨⟨(), rfl, trivial, by rw [ht]; exact hP, va_K.moved hW.alike hK, hD⟩, hS.F ht⟩) hS.2.2 d_Tr_place_38
  · have h := lf_f h c_2
    refine lv_aload_n hx hb d_Tr_place_8 rfl (lv_at hl 0 rfl) ?_
    refine va_get (D := (dC, dI)) (ci := 5) (v := .ref Y.a_first) (C := R_Tr) (T := F_Tr) (N := 18) hx hb hts (fun w h => u_Vq_Tr w (i_Tr w h)) hown hK hP 4 rfl rfl 3 (by decide) (hts _ (u_Vq_Tr _ k_Tr_8)) (fun _ h9 => h9) rfl d_Tr_place_9 ?_
    refine lv_iload_n hx hb d_Tr_place_12 rfl (lv_at hl 1 rfl) ?_
    refine lv_iload_n hx hb d_Tr_place_13 rfl (lv_at hl 2 rfl) ?_
    obtain ⟨g_3, h⟩ := lf_gE h
    refine va_iast hx hb hK hP hD hS 18 2 rfl rfl g_3 d_Tr_place_14 (fun H locs hP hD hS => ?_)
    obtain ⟨S_4, eS_4, h⟩ := lf_lX h
    have hP := ly_newP eS_4 hP
    have hD := ly_newD eS_4 hD
    refine lv_aload_n hx hb d_Tr_place_15 rfl (lv_at hl 0 rfl) ?_
    refine va_get (D := (dC, dI)) (ci := 5) (v := .ref Y.a_spot) (C := R_Tr) (T := F_Tr) (N := 18) hx hb hts (fun w h => u_Vq_Tr w (i_Tr w h)) hown hK hP 4 rfl rfl 6 (by decide) (hts _ (u_Vq_Tr _ k_Tr_11)) (fun _ h9 => h9) rfl d_Tr_place_16 ?_
    refine lv_iload_n hx hb d_Tr_place_19 rfl (lv_at hl 1 rfl) ?_
    refine lv_iload_n hx hb d_Tr_place_20 rfl (lv_at hl 3 rfl) ?_
    obtain ⟨g_5, h⟩ := lf_gE h
    refine va_iast hx hb hK hP hD hS 21 2 rfl rfl g_5 d_Tr_place_21 (fun H locs hP hD hS => ?_)
    obtain ⟨S_6, eS_6, h⟩ := lf_lX h
    have hP := ly_newP eS_6 hP
    have hD := ly_newD eS_6 hD
    refine lv_aload_n hx hb d_Tr_place_22 rfl (lv_at hl 0 rfl) ?_
    refine va_get (D := (dC, dI)) (ci := 5) (v := .ref Y.a_slot) (C := R_Tr) (T := F_Tr) (N := 18) hx hb hts (fun w h => u_Vq_Tr w (i_Tr w h)) hown hK hP 4 rfl rfl 7 (by decide) (hts _ (u_Vq_Tr _ k_Tr_12)) (fun _ h9 => h9) rfl d_Tr_place_23 ?_
    refine lv_iload_n hx hb d_Tr_place_26 rfl (lv_at hl 1 rfl) ?_
    refine lv_iload hx hb d_Tr_place_27 (lv_at hl 4 rfl) ?_
    obtain ⟨g_7, h⟩ := lf_gE h
    refine va_iast hx hb hK hP hD hS 22 2 rfl rfl g_7 d_Tr_place_29 (fun H locs hP hD hS => ?_)
    obtain ⟨S_8, eS_8, h⟩ := lf_lX h
    have hP := ly_newP eS_8 hP
    have hD := ly_newD eS_8 hD
    refine lv_aload_n hx hb d_Tr_place_30 rfl (lv_at hl 0 rfl) ?_
    refine va_get (D := (dC, dI)) (ci := 5) (v := .ref Y.a_parts) (C := R_Tr) (T := F_Tr) (N := 18) hx hb hts (fun w h => u_Vq_Tr w (i_Tr w h)) hown hK hP 4 rfl rfl 8 (by decide) (hts _ (u_Vq_Tr _ k_Tr_13)) (fun _ h9 => h9) rfl d_Tr_place_31 ?_
    refine lv_iload_n hx hb d_Tr_place_34 rfl (lv_at hl 1 rfl) ?_
    refine lv_iload hx hb d_Tr_place_35 (lv_at hl 5 rfl) ?_
    obtain ⟨g_9, h⟩ := lf_gE h
    refine va_iast hx hb hK hP hD hS 23 2 rfl rfl g_9 d_Tr_place_37 (fun H locs hP hD hS => ?_)
    obtain ⟨S_10, eS_10, h⟩ := lf_lX h
    have hP := ly_newP eS_10 hP
    have hD := ly_newD eS_10 hD
    rw [hQ]
    have e2 : S_10 = S' := Option.some.inj h
    have hP := ly_newP e2.symm hP
    have hD := ly_newD e2.symm hD
    exact W.vret hx hb hr (fun t ht hW => ⟨⟨(), rfl, trivial, by rw [ht]; exact hP, va_K.moved hW.alike hK, hD⟩, hS.F ht⟩) hS.2.2 d_Tr_place_38
set_option maxHeartbeats 4000000 in
set_option maxRecDepth 100000 in
theorem l_Tr_setSize (l : Launch) (dC : Nat → ClassId) (dI : Nat → Nat → Nat) {K : Nat} {M : CA} {E : (Nat → Prop) → State → Prop} (X : ly_X l dC dI K M E) (sz : Nat) {Y : CT} {G : CG} {S S' : CS} {p0 : Int32} {p1 : Int32} (h : f_Tr_setSize K G S p0 p1 = some S') : Met l y_Tr_setSize (.code y_Tr_setSize cb_Tr_setSize 3 none :: V_Vq) ({ frames := 1, cells := 0, slots := 0, locals := 21 }) (va_Pc [.ref M.o_Tr, .int p0, .int p1] (fun U => U.heap.size = sz ∧ at_ (dC, dI) (fun _ => True) (wV M Y G S) (tV M) U ∧ E (va_A (wV M Y G S) sz) U)) (va_Qv (fun (u : Unit) => True) (fun (u : Unit) t => at_ (dC, dI) (va_A (wV M Y G S) sz) (wV M Y G S') (tV M) t) (va_A (wV M Y G S) sz)) 0 0 (va_A (wV M Y G S) sz) := by
  refine Met.ofW (cc := cb_Tr_setSize) (maxL := 3) (ret := none) (by decide) rfl ?_
  intro p e s m args below meth c s₁ B hml hv
  obtain ⟨rfl, hsz, ⟨hP, hK, hD0⟩, hE⟩ := hv
  have hx := B.exec
  have hb := B.bytes
  have hr := B.returns
  have hts0 := atoms_spec (ws := .code y_Tr_setSize cb_Tr_setSize 3 none :: V_Vq) B.pre
  have hts : ∀ w ∈ V_Vq, w.before ([.ref M.o_Tr, .int p0, .int p1] : List Value).toArray s = true := fun w h => hts0 w (List.mem_cons_of_mem _ h)
  have hown : s.vm.findClass R_Tr = some m.cls := findClass_of_methodNamed B.named
  subst hsz
  have hD := hD0.self (sz := s.heap.size)
  generalize hAe : va_A (wV M Y G S) s.heap.size = A at hD hE ⊢
  have hA : ∀ q : Nat, s.heap.size ≤ q → A q := fun q h => by rw [← hAe]; exact Or.inr h
  have hS : va_S A s.heap s.heap [] := va_S.rf
  have hP : va_P (dC, dI) classes (wV M Y G S) s.heap := hP
  have hK : va_K (dC, dI) classes (tV M) s := hK
  have hEw : ∀ (H : Heap) (locs : List Loc), va_S A s.heap H locs → ∀ U : State, U.heap = H → s.WarmedH U.vm → E A U := fun H locs hS U hU hW => X.kept A s U H locs hE hS hU hW
  have hl := lv_entry ([.ref M.o_Tr, .int p0, .int p1]) (n := 3) (Nat.le_of_ble_eq_true rfl)
  rw [lg_entry_eq]
  generalize (lg_sl ([.ref M.o_Tr, .int p0, .int p1]) ++ List.replicate (3 - (lg_sl ([.ref M.o_Tr, .int p0, .int p1])).length) Slot.unset).toArray = ls at hl ⊢
  have hl : lv_has ls 3 [(0, .ref M.o_Tr), (1, .int p0), (2, .int p1)] := hl
  refine qabs (fun Q hQ => ?_)
  rw [f_Tr_setSize] at h
  refine lv_aload_n hx hb d_Tr_setSize_0 rfl (lv_at hl 0 rfl) ?_
  refine lv_iload_n hx hb d_Tr_setSize_1 rfl (lv_at hl 1 rfl) ?_
  obtain ⟨r_1, S_1, hc_1, h⟩ := lf_cE h
  have hFc := lx_free hD hS hA
  refine va_calli (va_runV (As := [.int p0]) (rest := []) ⟨hx, hb, hml, hown, hts⟩ (l_Tr_has l dC dI X _ hc_1) (cwV 1 hts (gwV good_Vq (u_Vq_Tr _ k_Tr_38) (u_Vq_Tr _ k_Tr_39) (u_Vq_Tr _ k_Tr_40) (u_Vq_Tr _ k_Tr_0) (wcs (u_Vq_Tr _ k_Tr_41) (fun _ h => h))) rfl rfl rfl (by decide +kernel) ⟨Nat.le_of_ble_eq_true rfl, Nat.le_of_ble_eq_true rfl⟩) (pv_ofE (X.same _) (fun U z1 z2 => X.mono _ _ U hFc (hEw _ _ hS U z1 z2)) hP hK hD (va_recv hK hP (ci := 5) (q0 := 4) rfl rfl)) rfl rfl hl.1 rfl (lv_room (Nat.le_of_ble_eq_true rfl)) d_Tr_setSize_2 ⟨by decide, by decide⟩) hS (fun q _ h => hFc q h) hFc (fun r_ u t H locs ht hvm hw hB hz1 hk1 hS => ?_)
  rw [hw]
  obtain ⟨hP, -, hD⟩ := hB
  rw [ht] at hP
  have hD := lx_dj hD hFc
  refine lv_if_eq (tgt := 15) hx hb d_Tr_setSize_5 (by decide) (fun c_2 => ?_) (fun c_2 => ?_)
  · have h := lf_t h c_2
    rw [hQ]
    have e2 : S_1 = S' := Option.some.inj h
    have hP := ly_newP e2.symm hP
    have hD := ly_newD e2.symm hD
    exact W.vret hx hb hr (fun t ht hW => ⟨⟨(), rfl, trivial, by rw [ht]; exact hP, va_K.moved hW.alike hK, hD⟩, hS.F ht⟩) hS.2.2 d_Tr_setSize_15
  · have h := lf_f h c_2
    refine lv_aload_n hx hb d_Tr_setSize_8 rfl (lv_at hl 0 rfl) ?_
    refine va_get (D := (dC, dI)) (ci := 5) (v := .ref Y.a_size) (C := R_Tr) (T := F_Tr) (N := 18) hx hb hts (fun w h => u_Vq_Tr w (i_Tr w h)) hown hK hP 4 rfl rfl 4 (by decide) (hts _ (u_Vq_Tr _ k_Tr_9)) (fun _ h9 => h9) rfl d_Tr_setSize_9 ?_
    refine lv_iload_n hx hb d_Tr_setSize_12 rfl (lv_at hl 1 rfl) ?_
    refine lv_iload_n hx hb d_Tr_setSize_13 rfl (lv_at hl 2 rfl) ?_
    obtain ⟨g_3, h⟩ := lf_gE h
    refine va_iast hx hb hK hP hD hS 19 2 rfl rfl g_3 d_Tr_setSize_14 (fun H locs hP hD hS => ?_)
    obtain ⟨S_4, eS_4, h⟩ := lf_lX h
    have hP := ly_newP eS_4 hP
    have hD := ly_newD eS_4 hD
    rw [hQ]
    have e2 : S_4 = S' := Option.some.inj h
    have hP := ly_newP e2.symm hP
    have hD := ly_newD e2.symm hD
    exact W.vret hx hb hr (fun t ht hW => ⟨⟨(), rfl, trivial, by rw [ht]; exact hP, va_K.moved hW.alike hK, hD⟩, hS.F ht⟩) hS.2.2 d_Tr_setSize_15
set_option maxHeartbeats 4000000 in
set_option maxRecDepth 100000 in
theorem l_Tr_setBuilt (l : Launch) (dC : Nat → ClassId) (dI : Nat → Nat → Nat) {K : Nat} {M : CA} {E : (Nat → Prop) → State → Prop} (X : ly_X l dC dI K M E) (sz : Nat) {Y : CT} {G : CG} {S S' : CS} {p0 : Int32} {p1 : Int32} {p2 : Int32} (h : f_Tr_setBuilt K G S p0 p1 p2 = some S') : Met l y_Tr_setBuilt (.code y_Tr_setBuilt cb_Tr_setBuilt 4 none :: V_Vq) ({ frames := 1, cells := 0, slots := 0, locals := 21 }) (va_Pc [.ref M.o_Tr, .int p0, .int p1, .int p2] (fun U => U.heap.size = sz ∧ at_ (dC, dI) (fun _ => True) (wV M Y G S) (tV M) U ∧ E (va_A (wV M Y G S) sz) U)) (va_Qv (fun (u : Unit) => True) (fun (u : Unit) t => at_ (dC, dI) (va_A (wV M Y G S) sz) (wV M Y G S') (tV M) t) (va_A (wV M Y G S) sz)) 0 0 (va_A (wV M Y G S) sz) := by
  refine Met.ofW (cc := cb_Tr_setBuilt) (maxL := 4) (ret := none) (by decide) rfl ?_
  intro p e s m args below meth c s₁ B hml hv
  obtain ⟨rfl, hsz, ⟨hP, hK, hD0⟩, hE⟩ := hv
  have hx := B.exec
  have hb := B.bytes
  have hr := B.returns
  have hts0 := atoms_spec (ws := .code y_Tr_setBuilt cb_Tr_setBuilt 4 none :: V_Vq) B.pre
  have hts : ∀ w ∈ V_Vq, w.before ([.ref M.o_Tr, .int p0, .int p1, .int p2] : List Value).toArray s = true := fun w h => hts0 w (List.mem_cons_of_mem _ h)
  have hown : s.vm.findClass R_Tr = some m.cls := findClass_of_methodNamed B.named
  subst hsz
  have hD := hD0.self (sz := s.heap.size)
  generalize hAe : va_A (wV M Y G S) s.heap.size = A at hD hE ⊢
  have hA : ∀ q : Nat, s.heap.size ≤ q → A q := fun q h => by rw [← hAe]; exact Or.inr h
  have hS : va_S A s.heap s.heap [] := va_S.rf
  have hP : va_P (dC, dI) classes (wV M Y G S) s.heap := hP
  have hK : va_K (dC, dI) classes (tV M) s := hK
  have hEw : ∀ (H : Heap) (locs : List Loc), va_S A s.heap H locs → ∀ U : State, U.heap = H → s.WarmedH U.vm → E A U := fun H locs hS U hU hW => X.kept A s U H locs hE hS hU hW
  have hl := lv_entry ([.ref M.o_Tr, .int p0, .int p1, .int p2]) (n := 4) (Nat.le_of_ble_eq_true rfl)
  rw [lg_entry_eq]
  generalize (lg_sl ([.ref M.o_Tr, .int p0, .int p1, .int p2]) ++ List.replicate (4 - (lg_sl ([.ref M.o_Tr, .int p0, .int p1, .int p2])).length) Slot.unset).toArray = ls at hl ⊢
  have hl : lv_has ls 4 [(0, .ref M.o_Tr), (1, .int p0), (2, .int p1), (3, .int p2)] := hl
  refine qabs (fun Q hQ => ?_)
  rw [f_Tr_setBuilt] at h
  refine lv_aload_n hx hb d_Tr_setBuilt_0 rfl (lv_at hl 0 rfl) ?_
  refine lv_iload_n hx hb d_Tr_setBuilt_1 rfl (lv_at hl 1 rfl) ?_
  obtain ⟨r_1, S_1, hc_1, h⟩ := lf_cE h
  have hFc := lx_free hD hS hA
  refine va_calli (va_runV (As := [.int p0]) (rest := []) ⟨hx, hb, hml, hown, hts⟩ (l_Tr_has l dC dI X _ hc_1) (cwV 1 hts (gwV good_Vq (u_Vq_Tr _ k_Tr_38) (u_Vq_Tr _ k_Tr_39) (u_Vq_Tr _ k_Tr_40) (u_Vq_Tr _ k_Tr_0) (wcs (u_Vq_Tr _ k_Tr_41) (fun _ h => h))) rfl rfl rfl (by decide +kernel) ⟨Nat.le_of_ble_eq_true rfl, Nat.le_of_ble_eq_true rfl⟩) (pv_ofE (X.same _) (fun U z1 z2 => X.mono _ _ U hFc (hEw _ _ hS U z1 z2)) hP hK hD (va_recv hK hP (ci := 5) (q0 := 4) rfl rfl)) rfl rfl hl.1 rfl (lv_room (Nat.le_of_ble_eq_true rfl)) d_Tr_setBuilt_2 ⟨by decide, by decide⟩) hS (fun q _ h => hFc q h) hFc (fun r_ u t H locs ht hvm hw hB hz1 hk1 hS => ?_)
  rw [hw]
  obtain ⟨hP, -, hD⟩ := hB
  rw [ht] at hP
  have hD := lx_dj hD hFc
  refine lv_if_eq (tgt := 22) hx hb d_Tr_setBuilt_5 (by decide) (fun c_2 => ?_) (fun c_2 => ?_)
  · have h := lf_t h c_2
    rw [hQ]
    have e2 : S_1 = S' := Option.some.inj h
    have hP := ly_newP e2.symm hP
    have hD := ly_newD e2.symm hD
    exact W.vret hx hb hr (fun t ht hW => ⟨⟨(), rfl, trivial, by rw [ht]; exact hP, va_K.moved hW.alike hK, hD⟩, hS.F ht⟩) hS.2.2 d_Tr_setBuilt_22
  · have h := lf_f h c_2
    refine lv_aload_n hx hb d_Tr_setBuilt_8 rfl (lv_at hl 0 rfl) ?_
    refine va_get (D := (dC, dI)) (ci := 5) (v := .ref Y.a_built) (C := R_Tr) (T := F_Tr) (N := 18) hx hb hts (fun w h => u_Vq_Tr w (i_Tr w h)) hown hK hP 4 rfl rfl 14 (by decide) (hts _ (u_Vq_Tr _ k_Tr_19)) (fun _ h9 => h9) rfl d_Tr_setBuilt_9 ?_
    refine lv_iload_n hx hb d_Tr_setBuilt_12 rfl (lv_at hl 1 rfl) ?_
    refine lv_iload_n hx hb d_Tr_setBuilt_13 rfl (lv_at hl 2 rfl) ?_
    obtain ⟨g_3, h⟩ := lf_gE h
    refine va_iast hx hb hK hP hD hS 29 2 rfl rfl g_3 d_Tr_setBuilt_14 (fun H locs hP hD hS => ?_)
    obtain ⟨S_4, eS_4, h⟩ := lf_lX h
    have hP := ly_newP eS_4 hP
    have hD := ly_newD eS_4 hD
    refine lv_aload_n hx hb d_Tr_setBuilt_15 rfl (lv_at hl 0 rfl) ?_
    refine va_get (D := (dC, dI)) (ci := 5) (v := .ref Y.a_builtBlocks) (C := R_Tr) (T := F_Tr) (N := 18) hx hb hts (fun w h => u_Vq_Tr w (i_Tr w h)) hown hK hP 4 rfl rfl 15 (by decide) (hts _ (u_Vq_Tr _ k_Tr_20)) (fun _ h9 => h9) rfl d_Tr_setBuilt_16 ?_
    refine lv_iload_n hx hb d_Tr_setBuilt_19 rfl (lv_at hl 1 rfl) ?_
    refine lv_iload_n hx hb d_Tr_setBuilt_20 rfl (lv_at hl 3 rfl) ?_
    obtain ⟨g_5, h⟩ := lf_gE h
    refine va_iast hx hb hK hP hD hS 30 2 rfl rfl g_5 d_Tr_setBuilt_21 (fun H locs hP hD hS => ?_)
    obtain ⟨S_6, eS_6, h⟩ := lf_lX h
    have hP := ly_newP eS_6 hP
    have hD := ly_newD eS_6 hD
    rw [hQ]
    have e2 : S_6 = S' := Option.some.inj h
    have hP := ly_newP e2.symm hP
    have hD := ly_newD e2.symm hD
    exact W.vret hx hb hr (fun t ht hW => ⟨⟨(), rfl, trivial, by rw [ht]; exact hP, va_K.moved hW.alike hK, hD⟩, hS.F ht⟩) hS.2.2 d_Tr_setBuilt_22
set_option maxHeartbeats 4000000 in
set_option maxRecDepth 100000 in
theorem l_Tr_isDirectory (l : Launch) (dC : Nat → ClassId) (dI : Nat → Nat → Nat) {K : Nat} {M : CA} {E : (Nat → Prop) → State → Prop} (X : ly_X l dC dI K M E) (sz : Nat) {Y : CT} {G : CG} {S S' : CS} {p0 : Int32} {r : Int32} (h : f_Tr_isDirectory K G S p0 = some (r, S')) : Met l y_Tr_isDirectory (.code y_Tr_isDirectory cb_Tr_isDirectory 2 (some .boolean) :: V_Vq) ({ frames := 1, cells := 0, slots := 0, locals := 21 }) (va_Pc [.ref M.o_Tr, .int p0] (fun U => U.heap.size = sz ∧ at_ (dC, dI) (fun _ => True) (wV M Y G S) (tV M) U ∧ E (va_A (wV M Y G S) sz) U)) (va_Qi (fun (r_ : Int32) (u : Unit) => r_ = r) (fun (u : Unit) t => at_ (dC, dI) (va_A (wV M Y G S) sz) (wV M Y G S') (tV M) t) (va_A (wV M Y G S) sz)) 0 0 (va_A (wV M Y G S) sz) := by
  refine Met.ofW (cc := cb_Tr_isDirectory) (maxL := 2) (ret := (some .boolean)) (by decide) rfl ?_
  intro p e s m args below meth c s₁ B hml hv
  obtain ⟨rfl, hsz, ⟨hP, hK, hD0⟩, hE⟩ := hv
  have hx := B.exec
  have hb := B.bytes
  have hr := B.returns
  have hts0 := atoms_spec (ws := .code y_Tr_isDirectory cb_Tr_isDirectory 2 (some .boolean) :: V_Vq) B.pre
  have hts : ∀ w ∈ V_Vq, w.before ([.ref M.o_Tr, .int p0] : List Value).toArray s = true := fun w h => hts0 w (List.mem_cons_of_mem _ h)
  have hown : s.vm.findClass R_Tr = some m.cls := findClass_of_methodNamed B.named
  subst hsz
  have hD := hD0.self (sz := s.heap.size)
  generalize hAe : va_A (wV M Y G S) s.heap.size = A at hD hE ⊢
  have hA : ∀ q : Nat, s.heap.size ≤ q → A q := fun q h => by rw [← hAe]; exact Or.inr h
  have hS : va_S A s.heap s.heap [] := va_S.rf
  have hP : va_P (dC, dI) classes (wV M Y G S) s.heap := hP
  have hK : va_K (dC, dI) classes (tV M) s := hK
  have hEw : ∀ (H : Heap) (locs : List Loc), va_S A s.heap H locs → ∀ U : State, U.heap = H → s.WarmedH U.vm → E A U := fun H locs hS U hU hW => X.kept A s U H locs hE hS hU hW
  have hl := lv_entry ([.ref M.o_Tr, .int p0]) (n := 2) (Nat.le_of_ble_eq_true rfl)
  rw [lg_entry_eq]
  generalize (lg_sl ([.ref M.o_Tr, .int p0]) ++ List.replicate (2 - (lg_sl ([.ref M.o_Tr, .int p0])).length) Slot.unset).toArray = ls at hl ⊢
  have hl : lv_has ls 2 [(0, .ref M.o_Tr), (1, .int p0)] := hl
  refine qabs (fun Q hQ => ?_)
  have hB_24 : ∀ (S : CS) (H : Heap) (locs : List Loc) (ls : Array Slot), f_Tr_isDirectory_24 K G S = some (r, S') → va_P (dC, dI) classes (wV M Y G S) H → va_D A (wV M Y G S) → va_S A s.heap H locs → lv_has ls 2 [] → W p l e ({ frames := 1, cells := 0, slots := 0, locals := 21 }) s m ([.ref M.o_Tr, .int p0] : List Value).toArray below meth c H locs 0 0 Q (F0 m 24 ls []) := by
    intro S H locs ls h hP hD hS hl
    rw [f_Tr_isDirectory_24] at h
    refine lv_iconst (v := 0) hx hb d_Tr_isDirectory_24 (by decide) ?_
    rw [hQ]
    have e1 : (0 : Int32) = r := congrArg Prod.fst (Option.some.inj h)
    have e2 : S = S' := congrArg Prod.snd (Option.some.inj h)
    have hP := ly_newP e2.symm hP
    have hD := ly_newD e2.symm hD
    exact W.zret (v := 0) hx hb hr rfl (fun t ht hW => ⟨⟨0, (), rfl, e1, by rw [ht]; exact hP, va_K.moved hW.alike hK, hD⟩, hS.F ht⟩) hS.2.2 d_Tr_isDirectory_25
  rw [f_Tr_isDirectory] at h
  refine lv_aload_n hx hb d_Tr_isDirectory_0 rfl (lv_at hl 0 rfl) ?_
  refine lv_iload_n hx hb d_Tr_isDirectory_1 rfl (lv_at hl 1 rfl) ?_
  obtain ⟨r_1, S_1, hc_1, h⟩ := lf_cE h
  have hFc := lx_free hD hS hA
  refine va_calli (va_runV (As := [.int p0]) (rest := []) ⟨hx, hb, hml, hown, hts⟩ (l_Tr_has l dC dI X _ hc_1) (cwV 1 hts (gwV good_Vq (u_Vq_Tr _ k_Tr_38) (u_Vq_Tr _ k_Tr_39) (u_Vq_Tr _ k_Tr_40) (u_Vq_Tr _ k_Tr_0) (wcs (u_Vq_Tr _ k_Tr_41) (fun _ h => h))) rfl rfl rfl (by decide +kernel) ⟨Nat.le_of_ble_eq_true rfl, Nat.le_of_ble_eq_true rfl⟩) (pv_ofE (X.same _) (fun U z1 z2 => X.mono _ _ U hFc (hEw _ _ hS U z1 z2)) hP hK hD (va_recv hK hP (ci := 5) (q0 := 4) rfl rfl)) rfl rfl hl.1 rfl (lv_room (Nat.le_of_ble_eq_true rfl)) d_Tr_isDirectory_2 ⟨by decide, by decide⟩) hS (fun q _ h => hFc q h) hFc (fun r_ u t H locs ht hvm hw hB hz1 hk1 hS => ?_)
  rw [hw]
  obtain ⟨hP, -, hD⟩ := hB
  rw [ht] at hP
  have hD := lx_dj hD hFc
  refine lv_if_eq (tgt := 24) hx hb d_Tr_isDirectory_5 (by decide) (fun c_2 => ?_) (fun c_2 => ?_)
  · have h := lf_t h c_2
    exact hB_24 S_1 _ _ _ h hP hD hS (lv_sub hl [] rfl)
  · have h := lf_f h c_2
    refine lv_aload_n hx hb d_Tr_isDirectory_8 rfl (lv_at hl 0 rfl) ?_
    refine va_get (D := (dC, dI)) (ci := 5) (v := .ref Y.a_bits) (C := R_Tr) (T := F_Tr) (N := 18) hx hb hts (fun w h => u_Vq_Tr w (i_Tr w h)) hown hK hP 4 rfl rfl 5 (by decide) (hts _ (u_Vq_Tr _ k_Tr_10)) (fun _ h9 => h9) rfl d_Tr_isDirectory_9 ?_
    refine lv_iload_n hx hb d_Tr_isDirectory_12 rfl (lv_at hl 1 rfl) ?_
    obtain ⟨g_3, h⟩ := lf_gE h
    refine va_iald hx hb hK hP 20 2 rfl rfl g_3 d_Tr_isDirectory_13 ?_
    refine lv_bipush (v := 16) hx hb d_Tr_isDirectory_14 (by decide) ?_
    refine lv_iand hx hb d_Tr_isDirectory_16 ?_
    refine lv_if_eq (tgt := 24) hx hb d_Tr_isDirectory_17 (by decide) (fun c_4 => ?_) (fun c_4 => ?_)
    · have h := lf_t h c_4
      exact hB_24 S_1 _ _ _ h hP hD hS (lv_sub hl [] rfl)
    · have h := lf_f h c_4
      refine lv_iconst (v := 1) hx hb d_Tr_isDirectory_20 (by decide) ?_
      refine lv_goto (tgt := 25) hx hb d_Tr_isDirectory_21 (by decide) ?_
      rw [hQ]
      have e1 : (1 : Int32) = r := congrArg Prod.fst (Option.some.inj h)
      have e2 : S_1 = S' := congrArg Prod.snd (Option.some.inj h)
      have hP := ly_newP e2.symm hP
      have hD := ly_newD e2.symm hD
      exact W.zret (v := 1) hx hb hr rfl (fun t ht hW => ⟨⟨1, (), rfl, e1, by rw [ht]; exact hP, va_K.moved hW.alike hK, hD⟩, hS.F ht⟩) hS.2.2 d_Tr_isDirectory_25
set_option maxHeartbeats 4000000 in
set_option maxRecDepth 100000 in
theorem l_Tr_countIn (l : Launch) (dC : Nat → ClassId) (dI : Nat → Nat → Nat) {K : Nat} {M : CA} {E : (Nat → Prop) → State → Prop} (X : ly_X l dC dI K M E) (sz : Nat) {Y : CT} {G : CG} {S S' : CS} {p0 : Int32} {r : Int32} (h : f_Tr_countIn K G S p0 = some (r, S')) : Met l y_Tr_countIn (.code y_Tr_countIn cb_Tr_countIn 2 (some .int) :: V_Vq) ({ frames := 1, cells := 0, slots := 0, locals := 21 }) (va_Pc [.ref M.o_Tr, .int p0] (fun U => U.heap.size = sz ∧ at_ (dC, dI) (fun _ => True) (wV M Y G S) (tV M) U ∧ E (va_A (wV M Y G S) sz) U)) (va_Qi (fun (r_ : Int32) (u : Unit) => r_ = r) (fun (u : Unit) t => at_ (dC, dI) (va_A (wV M Y G S) sz) (wV M Y G S') (tV M) t) (va_A (wV M Y G S) sz)) 0 0 (va_A (wV M Y G S) sz) := by
  refine Met.ofW (cc := cb_Tr_countIn) (maxL := 2) (ret := (some .int)) (by decide) rfl ?_
  intro p e s m args below meth c s₁ B hml hv
  obtain ⟨rfl, hsz, ⟨hP, hK, hD0⟩, hE⟩ := hv
  have hx := B.exec
  have hb := B.bytes
  have hr := B.returns
  have hts0 := atoms_spec (ws := .code y_Tr_countIn cb_Tr_countIn 2 (some .int) :: V_Vq) B.pre
  have hts : ∀ w ∈ V_Vq, w.before ([.ref M.o_Tr, .int p0] : List Value).toArray s = true := fun w h => hts0 w (List.mem_cons_of_mem _ h)
  have hown : s.vm.findClass R_Tr = some m.cls := findClass_of_methodNamed B.named
  subst hsz
  have hD := hD0.self (sz := s.heap.size)
  generalize hAe : va_A (wV M Y G S) s.heap.size = A at hD hE ⊢
  have hA : ∀ q : Nat, s.heap.size ≤ q → A q := fun q h => by rw [← hAe]; exact Or.inr h
  have hS : va_S A s.heap s.heap [] := va_S.rf
  have hP : va_P (dC, dI) classes (wV M Y G S) s.heap := hP
  have hK : va_K (dC, dI) classes (tV M) s := hK
  have hEw : ∀ (H : Heap) (locs : List Loc), va_S A s.heap H locs → ∀ U : State, U.heap = H → s.WarmedH U.vm → E A U := fun H locs hS U hU hW => X.kept A s U H locs hE hS hU hW
  have hl := lv_entry ([.ref M.o_Tr, .int p0]) (n := 2) (Nat.le_of_ble_eq_true rfl)
  rw [lg_entry_eq]
  generalize (lg_sl ([.ref M.o_Tr, .int p0]) ++ List.replicate (2 - (lg_sl ([.ref M.o_Tr, .int p0])).length) Slot.unset).toArray = ls at hl ⊢
  have hl : lv_has ls 2 [(0, .ref M.o_Tr), (1, .int p0)] := hl
  refine qabs (fun Q hQ => ?_)
  rw [f_Tr_countIn] at h
  refine lv_aload_n hx hb d_Tr_countIn_0 rfl (lv_at hl 0 rfl) ?_
  refine lv_iload_n hx hb d_Tr_countIn_1 rfl (lv_at hl 1 rfl) ?_
  obtain ⟨r_1, S_1, hc_1, h⟩ := lf_cE h
  have hFc := lx_free hD hS hA
  refine va_calli (va_runV (As := [.int p0]) (rest := []) ⟨hx, hb, hml, hown, hts⟩ (l_Tr_has l dC dI X _ hc_1) (cwV 1 hts (gwV good_Vq (u_Vq_Tr _ k_Tr_38) (u_Vq_Tr _ k_Tr_39) (u_Vq_Tr _ k_Tr_40) (u_Vq_Tr _ k_Tr_0) (wcs (u_Vq_Tr _ k_Tr_41) (fun _ h => h))) rfl rfl rfl (by decide +kernel) ⟨Nat.le_of_ble_eq_true rfl, Nat.le_of_ble_eq_true rfl⟩) (pv_ofE (X.same _) (fun U z1 z2 => X.mono _ _ U hFc (hEw _ _ hS U z1 z2)) hP hK hD (va_recv hK hP (ci := 5) (q0 := 4) rfl rfl)) rfl rfl hl.1 rfl (lv_room (Nat.le_of_ble_eq_true rfl)) d_Tr_countIn_2 ⟨by decide, by decide⟩) hS (fun q _ h => hFc q h) hFc (fun r_ u t H locs ht hvm hw hB hz1 hk1 hS => ?_)
  rw [hw]
  obtain ⟨hP, -, hD⟩ := hB
  rw [ht] at hP
  have hD := lx_dj hD hFc
  refine lv_if_eq (tgt := 17) hx hb d_Tr_countIn_5 (by decide) (fun c_2 => ?_) (fun c_2 => ?_)
  · have h := lf_t h c_2
    refine lv_iconst (v := 0) hx hb d_Tr_countIn_17 (by decide) ?_
    rw [hQ]
    have e1 : (0 : Int32) = r := congrArg Prod.fst (Option.some.inj h)
    have e2 : S_1 = S' := congrArg Prod.snd (Option.some.inj h)
    have hP := ly_newP e2.symm hP
    have hD := ly_newD e2.symm hD
    exact W.iret (v := 0) hx hb hr (fun t ht hW => ⟨⟨0, (), rfl, e1, by rw [ht]; exact hP, va_K.moved hW.alike hK, hD⟩, hS.F ht⟩) hS.2.2 d_Tr_countIn_18
  · have h := lf_f h c_2
    refine lv_aload_n hx hb d_Tr_countIn_8 rfl (lv_at hl 0 rfl) ?_
    refine va_get (D := (dC, dI)) (ci := 5) (v := .ref Y.a_kidCount) (C := R_Tr) (T := F_Tr) (N := 18) hx hb hts (fun w h => u_Vq_Tr w (i_Tr w h)) hown hK hP 4 rfl rfl 10 (by decide) (hts _ (u_Vq_Tr _ k_Tr_15)) (fun _ h9 => h9) rfl d_Tr_countIn_9 ?_
    refine lv_iload_n hx hb d_Tr_countIn_12 rfl (lv_at hl 1 rfl) ?_
    obtain ⟨g_3, h⟩ := lf_gE h
    refine va_iald hx hb hK hP 25 2 rfl rfl g_3 d_Tr_countIn_13 ?_
    refine lv_goto (tgt := 18) hx hb d_Tr_countIn_14 (by decide) ?_
    rw [hQ]
    have e1 : (S_1.w_Tr_kidCount p0.toNatClampNeg) = r := congrArg Prod.fst (Option.some.inj h)
    have e2 : S_1 = S' := congrArg Prod.snd (Option.some.inj h)
    have hP := ly_newP e2.symm hP
    have hD := ly_newD e2.symm hD
    exact W.iret (v := (S_1.w_Tr_kidCount p0.toNatClampNeg)) hx hb hr (fun t ht hW => ⟨⟨(S_1.w_Tr_kidCount p0.toNatClampNeg), (), rfl, e1, by rw [ht]; exact hP, va_K.moved hW.alike hK, hD⟩, hS.F ht⟩) hS.2.2 d_Tr_countIn_18
set_option maxHeartbeats 4000000 in
set_option maxRecDepth 100000 in
theorem l_Tr_kid (l : Launch) (dC : Nat → ClassId) (dI : Nat → Nat → Nat) {K : Nat} {M : CA} {E : (Nat → Prop) → State → Prop} (X : ly_X l dC dI K M E) (sz : Nat) {Y : CT} {G : CG} {S S' : CS} {p0 : Int32} {p1 : Int32} {r : Int32} (h : f_Tr_kid K G S p0 p1 = some (r, S')) : Met l y_Tr_kid (.code y_Tr_kid cb_Tr_kid 3 (some .int) :: V_Vq) ({ frames := 1, cells := 0, slots := 0, locals := 21 }) (va_Pc [.ref M.o_Tr, .int p0, .int p1] (fun U => U.heap.size = sz ∧ at_ (dC, dI) (fun _ => True) (wV M Y G S) (tV M) U ∧ E (va_A (wV M Y G S) sz) U)) (va_Qi (fun (r_ : Int32) (u : Unit) => r_ = r) (fun (u : Unit) t => at_ (dC, dI) (va_A (wV M Y G S) sz) (wV M Y G S') (tV M) t) (va_A (wV M Y G S) sz)) 0 0 (va_A (wV M Y G S) sz) := by
  refine Met.ofW (cc := cb_Tr_kid) (maxL := 3) (ret := (some .int)) (by decide) rfl ?_
  intro p e s m args below meth c s₁ B hml hv
  obtain ⟨rfl, hsz, ⟨hP, hK, hD0⟩, hE⟩ := hv
  have hx := B.exec
  have hb := B.bytes
  have hr := B.returns
  have hts0 := atoms_spec (ws := .code y_Tr_kid cb_Tr_kid 3 (some .int) :: V_Vq) B.pre
  have hts : ∀ w ∈ V_Vq, w.before ([.ref M.o_Tr, .int p0, .int p1] : List Value).toArray s = true := fun w h => hts0 w (List.mem_cons_of_mem _ h)
  have hown : s.vm.findClass R_Tr = some m.cls := findClass_of_methodNamed B.named
  subst hsz
  have hD := hD0.self (sz := s.heap.size)
  generalize hAe : va_A (wV M Y G S) s.heap.size = A at hD hE ⊢
  have hA : ∀ q : Nat, s.heap.size ≤ q → A q := fun q h => by rw [← hAe]; exact Or.inr h
  have hS : va_S A s.heap s.heap [] := va_S.rf
  have hP : va_P (dC, dI) classes (wV M Y G S) s.heap := hP
  have hK : va_K (dC, dI) classes (tV M) s := hK
  have hEw : ∀ (H : Heap) (locs : List Loc), va_S A s.heap H locs → ∀ U : State, U.heap = H → s.WarmedH U.vm → E A U := fun H locs hS U hU hW => X.kept A s U H locs hE hS hU hW
  have hl := lv_entry ([.ref M.o_Tr, .int p0, .int p1]) (n := 3) (Nat.le_of_ble_eq_true rfl)
  rw [lg_entry_eq]
  generalize (lg_sl ([.ref M.o_Tr, .int p0, .int p1]) ++ List.replicate (3 - (lg_sl ([.ref M.o_Tr, .int p0, .int p1])).length) Slot.unset).toArray = ls at hl ⊢
  have hl : lv_has ls 3 [(0, .ref M.o_Tr), (1, .int p0), (2, .int p1)] := hl
  refine qabs (fun Q hQ => ?_)
  rw [f_Tr_kid] at h
  refine lv_aload_n hx hb d_Tr_kid_0 rfl (lv_at hl 0 rfl) ?_
  refine lv_iload_n hx hb d_Tr_kid_1 rfl (lv_at hl 1 rfl) ?_
  obtain ⟨r_1, S_1, hc_1, h⟩ := lf_cE h
  have hFc := lx_free hD hS hA
  refine va_calli (va_runV (As := [.int p0]) (rest := []) ⟨hx, hb, hml, hown, hts⟩ (l_Tr_has l dC dI X _ hc_1) (cwV 1 hts (gwV good_Vq (u_Vq_Tr _ k_Tr_38) (u_Vq_Tr _ k_Tr_39) (u_Vq_Tr _ k_Tr_40) (u_Vq_Tr _ k_Tr_0) (wcs (u_Vq_Tr _ k_Tr_41) (fun _ h => h))) rfl rfl rfl (by decide +kernel) ⟨Nat.le_of_ble_eq_true rfl, Nat.le_of_ble_eq_true rfl⟩) (pv_ofE (X.same _) (fun U z1 z2 => X.mono _ _ U hFc (hEw _ _ hS U z1 z2)) hP hK hD (va_recv hK hP (ci := 5) (q0 := 4) rfl rfl)) rfl rfl hl.1 rfl (lv_room (Nat.le_of_ble_eq_true rfl)) d_Tr_kid_2 ⟨by decide, by decide⟩) hS (fun q _ h => hFc q h) hFc (fun r_ u t H locs ht hvm hw hB hz1 hk1 hS => ?_)
  rw [hw]
  obtain ⟨hP, -, hD⟩ := hB
  rw [ht] at hP
  have hD := lx_dj hD hFc
  refine lv_if_eq (tgt := 19) hx hb d_Tr_kid_5 (by decide) (fun c_2 => ?_) (fun c_2 => ?_)
  · have h := lf_t h c_2
    refine lv_iconst (v := 0) hx hb d_Tr_kid_19 (by decide) ?_
    rw [hQ]
    have e1 : (0 : Int32) = r := congrArg Prod.fst (Option.some.inj h)
    have e2 : S_1 = S' := congrArg Prod.snd (Option.some.inj h)
    have hP := ly_newP e2.symm hP
    have hD := ly_newD e2.symm hD
    exact W.iret (v := 0) hx hb hr (fun t ht hW => ⟨⟨0, (), rfl, e1, by rw [ht]; exact hP, va_K.moved hW.alike hK, hD⟩, hS.F ht⟩) hS.2.2 d_Tr_kid_20
  · have h := lf_f h c_2
    refine lv_aload_n hx hb d_Tr_kid_8 rfl (lv_at hl 0 rfl) ?_
    refine va_get (D := (dC, dI)) (ci := 5) (v := .ref Y.a_kids) (C := R_Tr) (T := F_Tr) (N := 18) hx hb hts (fun w h => u_Vq_Tr w (i_Tr w h)) hown hK hP 4 rfl rfl 9 (by decide) (hts _ (u_Vq_Tr _ k_Tr_14)) (fun _ h9 => h9) rfl d_Tr_kid_9 ?_
    refine lv_iload_n hx hb d_Tr_kid_12 rfl (lv_at hl 1 rfl) ?_
    obtain ⟨g_3, h⟩ := lf_gE h
    refine va_iald hx hb hK hP 24 2 rfl rfl g_3 d_Tr_kid_13 ?_
    refine lv_iload_n hx hb d_Tr_kid_14 rfl (lv_at hl 2 rfl) ?_
    refine lv_iadd hx hb d_Tr_kid_15 ?_
    refine lv_goto (tgt := 20) hx hb d_Tr_kid_16 (by decide) ?_
    rw [hQ]
    have e1 : ((S_1.w_Tr_kids p0.toNatClampNeg) + p1) = r := congrArg Prod.fst (Option.some.inj h)
    have e2 : S_1 = S' := congrArg Prod.snd (Option.some.inj h)
    have hP := ly_newP e2.symm hP
    have hD := ly_newD e2.symm hD
    exact W.iret (v := ((S_1.w_Tr_kids p0.toNatClampNeg) + p1)) hx hb hr (fun t ht hW => ⟨⟨((S_1.w_Tr_kids p0.toNatClampNeg) + p1), (), rfl, e1, by rw [ht]; exact hP, va_K.moved hW.alike hK, hD⟩, hS.F ht⟩) hS.2.2 d_Tr_kid_20
set_option maxHeartbeats 4000000 in
set_option maxRecDepth 100000 in
theorem l_Tr_parentOf (l : Launch) (dC : Nat → ClassId) (dI : Nat → Nat → Nat) {K : Nat} {M : CA} {E : (Nat → Prop) → State → Prop} (X : ly_X l dC dI K M E) (sz : Nat) {Y : CT} {G : CG} {S S' : CS} {p0 : Int32} {r : Int32} (h : f_Tr_parentOf K G S p0 = some (r, S')) : Met l y_Tr_parentOf (.code y_Tr_parentOf cb_Tr_parentOf 2 (some .int) :: V_Vq) ({ frames := 1, cells := 0, slots := 0, locals := 21 }) (va_Pc [.ref M.o_Tr, .int p0] (fun U => U.heap.size = sz ∧ at_ (dC, dI) (fun _ => True) (wV M Y G S) (tV M) U ∧ E (va_A (wV M Y G S) sz) U)) (va_Qi (fun (r_ : Int32) (u : Unit) => r_ = r) (fun (u : Unit) t => at_ (dC, dI) (va_A (wV M Y G S) sz) (wV M Y G S') (tV M) t) (va_A (wV M Y G S) sz)) 0 0 (va_A (wV M Y G S) sz) := by
  refine Met.ofW (cc := cb_Tr_parentOf) (maxL := 2) (ret := (some .int)) (by decide) rfl ?_
  intro p e s m args below meth c s₁ B hml hv
  obtain ⟨rfl, hsz, ⟨hP, hK, hD0⟩, hE⟩ := hv
  have hx := B.exec
  have hb := B.bytes
  have hr := B.returns
  have hts0 := atoms_spec (ws := .code y_Tr_parentOf cb_Tr_parentOf 2 (some .int) :: V_Vq) B.pre
  have hts : ∀ w ∈ V_Vq, w.before ([.ref M.o_Tr, .int p0] : List Value).toArray s = true := fun w h => hts0 w (List.mem_cons_of_mem _ h)
  have hown : s.vm.findClass R_Tr = some m.cls := findClass_of_methodNamed B.named
  subst hsz
  have hD := hD0.self (sz := s.heap.size)
  generalize hAe : va_A (wV M Y G S) s.heap.size = A at hD hE ⊢
  have hA : ∀ q : Nat, s.heap.size ≤ q → A q := fun q h => by rw [← hAe]; exact Or.inr h
  have hS : va_S A s.heap s.heap [] := va_S.rf
  have hP : va_P (dC, dI) classes (wV M Y G S) s.heap := hP
  have hK : va_K (dC, dI) classes (tV M) s := hK
  have hEw : ∀ (H : Heap) (locs : List Loc), va_S A s.heap H locs → ∀ U : State, U.heap = H → s.WarmedH U.vm → E A U := fun H locs hS U hU hW => X.kept A s U H locs hE hS hU hW
  have hl := lv_entry ([.ref M.o_Tr, .int p0]) (n := 2) (Nat.le_of_ble_eq_true rfl)
  rw [lg_entry_eq]
  generalize (lg_sl ([.ref M.o_Tr, .int p0]) ++ List.replicate (2 - (lg_sl ([.ref M.o_Tr, .int p0])).length) Slot.unset).toArray = ls at hl ⊢
  have hl : lv_has ls 2 [(0, .ref M.o_Tr), (1, .int p0)] := hl
  refine qabs (fun Q hQ => ?_)
  rw [f_Tr_parentOf] at h
  refine lv_aload_n hx hb d_Tr_parentOf_0 rfl (lv_at hl 0 rfl) ?_
  refine lv_iload_n hx hb d_Tr_parentOf_1 rfl (lv_at hl 1 rfl) ?_
  obtain ⟨r_1, S_1, hc_1, h⟩ := lf_cE h
  have hFc := lx_free hD hS hA
  refine va_calli (va_runV (As := [.int p0]) (rest := []) ⟨hx, hb, hml, hown, hts⟩ (l_Tr_has l dC dI X _ hc_1) (cwV 1 hts (gwV good_Vq (u_Vq_Tr _ k_Tr_38) (u_Vq_Tr _ k_Tr_39) (u_Vq_Tr _ k_Tr_40) (u_Vq_Tr _ k_Tr_0) (wcs (u_Vq_Tr _ k_Tr_41) (fun _ h => h))) rfl rfl rfl (by decide +kernel) ⟨Nat.le_of_ble_eq_true rfl, Nat.le_of_ble_eq_true rfl⟩) (pv_ofE (X.same _) (fun U z1 z2 => X.mono _ _ U hFc (hEw _ _ hS U z1 z2)) hP hK hD (va_recv hK hP (ci := 5) (q0 := 4) rfl rfl)) rfl rfl hl.1 rfl (lv_room (Nat.le_of_ble_eq_true rfl)) d_Tr_parentOf_2 ⟨by decide, by decide⟩) hS (fun q _ h => hFc q h) hFc (fun r_ u t H locs ht hvm hw hB hz1 hk1 hS => ?_)
  rw [hw]
  obtain ⟨hP, -, hD⟩ := hB
  rw [ht] at hP
  have hD := lx_dj hD hFc
  refine lv_if_eq (tgt := 17) hx hb d_Tr_parentOf_5 (by decide) (fun c_2 => ?_) (fun c_2 => ?_)
  · have h := lf_t h c_2
    refine lv_iconst (v := 0) hx hb d_Tr_parentOf_17 (by decide) ?_
    rw [hQ]
    have e1 : (0 : Int32) = r := congrArg Prod.fst (Option.some.inj h)
    have e2 : S_1 = S' := congrArg Prod.snd (Option.some.inj h)
    have hP := ly_newP e2.symm hP
    have hD := ly_newD e2.symm hD
    exact W.iret (v := 0) hx hb hr (fun t ht hW => ⟨⟨0, (), rfl, e1, by rw [ht]; exact hP, va_K.moved hW.alike hK, hD⟩, hS.F ht⟩) hS.2.2 d_Tr_parentOf_18
  · have h := lf_f h c_2
    refine lv_aload_n hx hb d_Tr_parentOf_8 rfl (lv_at hl 0 rfl) ?_
    refine va_get (D := (dC, dI)) (ci := 5) (v := .ref Y.a_parent) (C := R_Tr) (T := F_Tr) (N := 18) hx hb hts (fun w h => u_Vq_Tr w (i_Tr w h)) hown hK hP 4 rfl rfl 2 (by decide) (hts _ (u_Vq_Tr _ k_Tr_7)) (fun _ h9 => h9) rfl d_Tr_parentOf_9 ?_
    refine lv_iload_n hx hb d_Tr_parentOf_12 rfl (lv_at hl 1 rfl) ?_
    obtain ⟨g_3, h⟩ := lf_gE h
    refine va_iald hx hb hK hP 17 2 rfl rfl g_3 d_Tr_parentOf_13 ?_
    refine lv_goto (tgt := 18) hx hb d_Tr_parentOf_14 (by decide) ?_
    rw [hQ]
    have e1 : (S_1.w_Tr_parent p0.toNatClampNeg) = r := congrArg Prod.fst (Option.some.inj h)
    have e2 : S_1 = S' := congrArg Prod.snd (Option.some.inj h)
    have hP := ly_newP e2.symm hP
    have hD := ly_newD e2.symm hD
    exact W.iret (v := (S_1.w_Tr_parent p0.toNatClampNeg)) hx hb hr (fun t ht hW => ⟨⟨(S_1.w_Tr_parent p0.toNatClampNeg), (), rfl, e1, by rw [ht]; exact hP, va_K.moved hW.alike hK, hD⟩, hS.F ht⟩) hS.2.2 d_Tr_parentOf_18
set_option maxHeartbeats 4000000 in
set_option maxRecDepth 100000 in
theorem l_Tr_isReadOnly (l : Launch) (dC : Nat → ClassId) (dI : Nat → Nat → Nat) {K : Nat} {M : CA} {E : (Nat → Prop) → State → Prop} (X : ly_X l dC dI K M E) (sz : Nat) {Y : CT} {G : CG} {S S' : CS} {p0 : Int32} {r : Int32} (h : f_Tr_isReadOnly K G S p0 = some (r, S')) : Met l y_Tr_isReadOnly (.code y_Tr_isReadOnly cb_Tr_isReadOnly 2 (some .boolean) :: V_Vq) ({ frames := 1, cells := 0, slots := 0, locals := 21 }) (va_Pc [.ref M.o_Tr, .int p0] (fun U => U.heap.size = sz ∧ at_ (dC, dI) (fun _ => True) (wV M Y G S) (tV M) U ∧ E (va_A (wV M Y G S) sz) U)) (va_Qi (fun (r_ : Int32) (u : Unit) => r_ = r) (fun (u : Unit) t => at_ (dC, dI) (va_A (wV M Y G S) sz) (wV M Y G S') (tV M) t) (va_A (wV M Y G S) sz)) 0 0 (va_A (wV M Y G S) sz) := by
  refine Met.ofW (cc := cb_Tr_isReadOnly) (maxL := 2) (ret := (some .boolean)) (by decide) rfl ?_
  intro p e s m args below meth c s₁ B hml hv
  obtain ⟨rfl, hsz, ⟨hP, hK, hD0⟩, hE⟩ := hv
  have hx := B.exec
  have hb := B.bytes
  have hr := B.returns
  have hts0 := atoms_spec (ws := .code y_Tr_isReadOnly cb_Tr_isReadOnly 2 (some .boolean) :: V_Vq) B.pre
  have hts : ∀ w ∈ V_Vq, w.before ([.ref M.o_Tr, .int p0] : List Value).toArray s = true := fun w h => hts0 w (List.mem_cons_of_mem _ h)
  have hown : s.vm.findClass R_Tr = some m.cls := findClass_of_methodNamed B.named
  subst hsz
  have hD := hD0.self (sz := s.heap.size)
  generalize hAe : va_A (wV M Y G S) s.heap.size = A at hD hE ⊢
  have hA : ∀ q : Nat, s.heap.size ≤ q → A q := fun q h => by rw [← hAe]; exact Or.inr h
  have hS : va_S A s.heap s.heap [] := va_S.rf
  have hP : va_P (dC, dI) classes (wV M Y G S) s.heap := hP
  have hK : va_K (dC, dI) classes (tV M) s := hK
  have hEw : ∀ (H : Heap) (locs : List Loc), va_S A s.heap H locs → ∀ U : State, U.heap = H → s.WarmedH U.vm → E A U := fun H locs hS U hU hW => X.kept A s U H locs hE hS hU hW
  have hl := lv_entry ([.ref M.o_Tr, .int p0]) (n := 2) (Nat.le_of_ble_eq_true rfl)
  rw [lg_entry_eq]
  generalize (lg_sl ([.ref M.o_Tr, .int p0]) ++ List.replicate (2 - (lg_sl ([.ref M.o_Tr, .int p0])).length) Slot.unset).toArray = ls at hl ⊢
  have hl : lv_has ls 2 [(0, .ref M.o_Tr), (1, .int p0)] := hl
  refine qabs (fun Q hQ => ?_)
  have hB_23 : ∀ (S : CS) (H : Heap) (locs : List Loc) (ls : Array Slot), f_Tr_isReadOnly_23 K G S = some (r, S') → va_P (dC, dI) classes (wV M Y G S) H → va_D A (wV M Y G S) → va_S A s.heap H locs → lv_has ls 2 [] → W p l e ({ frames := 1, cells := 0, slots := 0, locals := 21 }) s m ([.ref M.o_Tr, .int p0] : List Value).toArray below meth c H locs 0 0 Q (F0 m 23 ls []) := by
    intro S H locs ls h hP hD hS hl
    rw [f_Tr_isReadOnly_23] at h
    refine lv_iconst (v := 0) hx hb d_Tr_isReadOnly_23 (by decide) ?_
    rw [hQ]
    have e1 : (0 : Int32) = r := congrArg Prod.fst (Option.some.inj h)
    have e2 : S = S' := congrArg Prod.snd (Option.some.inj h)
    have hP := ly_newP e2.symm hP
    have hD := ly_newD e2.symm hD
    exact W.zret (v := 0) hx hb hr rfl (fun t ht hW => ⟨⟨0, (), rfl, e1, by rw [ht]; exact hP, va_K.moved hW.alike hK, hD⟩, hS.F ht⟩) hS.2.2 d_Tr_isReadOnly_24
  rw [f_Tr_isReadOnly] at h
  refine lv_aload_n hx hb d_Tr_isReadOnly_0 rfl (lv_at hl 0 rfl) ?_
  refine lv_iload_n hx hb d_Tr_isReadOnly_1 rfl (lv_at hl 1 rfl) ?_
  obtain ⟨r_1, S_1, hc_1, h⟩ := lf_cE h
  have hFc := lx_free hD hS hA
  refine va_calli (va_runV (As := [.int p0]) (rest := []) ⟨hx, hb, hml, hown, hts⟩ (l_Tr_has l dC dI X _ hc_1) (cwV 1 hts (gwV good_Vq (u_Vq_Tr _ k_Tr_38) (u_Vq_Tr _ k_Tr_39) (u_Vq_Tr _ k_Tr_40) (u_Vq_Tr _ k_Tr_0) (wcs (u_Vq_Tr _ k_Tr_41) (fun _ h => h))) rfl rfl rfl (by decide +kernel) ⟨Nat.le_of_ble_eq_true rfl, Nat.le_of_ble_eq_true rfl⟩) (pv_ofE (X.same _) (fun U z1 z2 => X.mono _ _ U hFc (hEw _ _ hS U z1 z2)) hP hK hD (va_recv hK hP (ci := 5) (q0 := 4) rfl rfl)) rfl rfl hl.1 rfl (lv_room (Nat.le_of_ble_eq_true rfl)) d_Tr_isReadOnly_2 ⟨by decide, by decide⟩) hS (fun q _ h => hFc q h) hFc (fun r_ u t H locs ht hvm hw hB hz1 hk1 hS => ?_)
  rw [hw]
  obtain ⟨hP, -, hD⟩ := hB
  rw [ht] at hP
  have hD := lx_dj hD hFc
  refine lv_if_eq (tgt := 23) hx hb d_Tr_isReadOnly_5 (by decide) (fun c_2 => ?_) (fun c_2 => ?_)
  · have h := lf_t h c_2
    exact hB_23 S_1 _ _ _ h hP hD hS (lv_sub hl [] rfl)
  · have h := lf_f h c_2
    refine lv_aload_n hx hb d_Tr_isReadOnly_8 rfl (lv_at hl 0 rfl) ?_
    refine va_get (D := (dC, dI)) (ci := 5) (v := .ref Y.a_bits) (C := R_Tr) (T := F_Tr) (N := 18) hx hb hts (fun w h => u_Vq_Tr w (i_Tr w h)) hown hK hP 4 rfl rfl 5 (by decide) (hts _ (u_Vq_Tr _ k_Tr_10)) (fun _ h9 => h9) rfl d_Tr_isReadOnly_9 ?_
    refine lv_iload_n hx hb d_Tr_isReadOnly_12 rfl (lv_at hl 1 rfl) ?_
    obtain ⟨g_3, h⟩ := lf_gE h
    refine va_iald hx hb hK hP 20 2 rfl rfl g_3 d_Tr_isReadOnly_13 ?_
    refine lv_iconst (v := 1) hx hb d_Tr_isReadOnly_14 (by decide) ?_
    refine lv_iand hx hb d_Tr_isReadOnly_15 ?_
    refine lv_if_eq (tgt := 23) hx hb d_Tr_isReadOnly_16 (by decide) (fun c_4 => ?_) (fun c_4 => ?_)
    · have h := lf_t h c_4
      exact hB_23 S_1 _ _ _ h hP hD hS (lv_sub hl [] rfl)
    · have h := lf_f h c_4
      refine lv_iconst (v := 1) hx hb d_Tr_isReadOnly_19 (by decide) ?_
      refine lv_goto (tgt := 24) hx hb d_Tr_isReadOnly_20 (by decide) ?_
      rw [hQ]
      have e1 : (1 : Int32) = r := congrArg Prod.fst (Option.some.inj h)
      have e2 : S_1 = S' := congrArg Prod.snd (Option.some.inj h)
      have hP := ly_newP e2.symm hP
      have hD := ly_newD e2.symm hD
      exact W.zret (v := 1) hx hb hr rfl (fun t ht hW => ⟨⟨1, (), rfl, e1, by rw [ht]; exact hP, va_K.moved hW.alike hK, hD⟩, hS.F ht⟩) hS.2.2 d_Tr_isReadOnly_24
set_option maxHeartbeats 4000000 in
set_option maxRecDepth 100000 in
theorem l_Tr_partsOf (l : Launch) (dC : Nat → ClassId) (dI : Nat → Nat → Nat) {K : Nat} {M : CA} {E : (Nat → Prop) → State → Prop} (X : ly_X l dC dI K M E) (sz : Nat) {Y : CT} {G : CG} {S S' : CS} {p0 : Int32} {r : Int32} (h : f_Tr_partsOf K G S p0 = some (r, S')) : Met l y_Tr_partsOf (.code y_Tr_partsOf cb_Tr_partsOf 2 (some .int) :: V_Vq) ({ frames := 1, cells := 0, slots := 0, locals := 21 }) (va_Pc [.ref M.o_Tr, .int p0] (fun U => U.heap.size = sz ∧ at_ (dC, dI) (fun _ => True) (wV M Y G S) (tV M) U ∧ E (va_A (wV M Y G S) sz) U)) (va_Qi (fun (r_ : Int32) (u : Unit) => r_ = r) (fun (u : Unit) t => at_ (dC, dI) (va_A (wV M Y G S) sz) (wV M Y G S') (tV M) t) (va_A (wV M Y G S) sz)) 0 0 (va_A (wV M Y G S) sz) := by
  refine Met.ofW (cc := cb_Tr_partsOf) (maxL := 2) (ret := (some .int)) (by decide) rfl ?_
  intro p e s m args below meth c s₁ B hml hv
  obtain ⟨rfl, hsz, ⟨hP, hK, hD0⟩, hE⟩ := hv
  have hx := B.exec
  have hb := B.bytes
  have hr := B.returns
  have hts0 := atoms_spec (ws := .code y_Tr_partsOf cb_Tr_partsOf 2 (some .int) :: V_Vq) B.pre
  have hts : ∀ w ∈ V_Vq, w.before ([.ref M.o_Tr, .int p0] : List Value).toArray s = true := fun w h => hts0 w (List.mem_cons_of_mem _ h)
  have hown : s.vm.findClass R_Tr = some m.cls := findClass_of_methodNamed B.named
  subst hsz
  have hD := hD0.self (sz := s.heap.size)
  generalize hAe : va_A (wV M Y G S) s.heap.size = A at hD hE ⊢
  have hA : ∀ q : Nat, s.heap.size ≤ q → A q := fun q h => by rw [← hAe]; exact Or.inr h
  have hS : va_S A s.heap s.heap [] := va_S.rf
  have hP : va_P (dC, dI) classes (wV M Y G S) s.heap := hP
  have hK : va_K (dC, dI) classes (tV M) s := hK
  have hEw : ∀ (H : Heap) (locs : List Loc), va_S A s.heap H locs → ∀ U : State, U.heap = H → s.WarmedH U.vm → E A U := fun H locs hS U hU hW => X.kept A s U H locs hE hS hU hW
  have hl := lv_entry ([.ref M.o_Tr, .int p0]) (n := 2) (Nat.le_of_ble_eq_true rfl)
  rw [lg_entry_eq]
  generalize (lg_sl ([.ref M.o_Tr, .int p0]) ++ List.replicate (2 - (lg_sl ([.ref M.o_Tr, .int p0])).length) Slot.unset).toArray = ls at hl ⊢
  have hl : lv_has ls 2 [(0, .ref M.o_Tr), (1, .int p0)] := hl
  refine qabs (fun Q hQ => ?_)
  rw [f_Tr_partsOf] at h
  refine lv_aload_n hx hb d_Tr_partsOf_0 rfl (lv_at hl 0 rfl) ?_
  refine lv_iload_n hx hb d_Tr_partsOf_1 rfl (lv_at hl 1 rfl) ?_
  obtain ⟨r_1, S_1, hc_1, h⟩ := lf_cE h
  have hFc := lx_free hD hS hA
  refine va_calli (va_runV (As := [.int p0]) (rest := []) ⟨hx, hb, hml, hown, hts⟩ (l_Tr_has l dC dI X _ hc_1) (cwV 1 hts (gwV good_Vq (u_Vq_Tr _ k_Tr_38) (u_Vq_Tr _ k_Tr_39) (u_Vq_Tr _ k_Tr_40) (u_Vq_Tr _ k_Tr_0) (wcs (u_Vq_Tr _ k_Tr_41) (fun _ h => h))) rfl rfl rfl (by decide +kernel) ⟨Nat.le_of_ble_eq_true rfl, Nat.le_of_ble_eq_true rfl⟩) (pv_ofE (X.same _) (fun U z1 z2 => X.mono _ _ U hFc (hEw _ _ hS U z1 z2)) hP hK hD (va_recv hK hP (ci := 5) (q0 := 4) rfl rfl)) rfl rfl hl.1 rfl (lv_room (Nat.le_of_ble_eq_true rfl)) d_Tr_partsOf_2 ⟨by decide, by decide⟩) hS (fun q _ h => hFc q h) hFc (fun r_ u t H locs ht hvm hw hB hz1 hk1 hS => ?_)
  rw [hw]
  obtain ⟨hP, -, hD⟩ := hB
  rw [ht] at hP
  have hD := lx_dj hD hFc
  refine lv_if_eq (tgt := 17) hx hb d_Tr_partsOf_5 (by decide) (fun c_2 => ?_) (fun c_2 => ?_)
  · have h := lf_t h c_2
    refine lv_iconst (v := 0) hx hb d_Tr_partsOf_17 (by decide) ?_
    rw [hQ]
    have e1 : (0 : Int32) = r := congrArg Prod.fst (Option.some.inj h)
    have e2 : S_1 = S' := congrArg Prod.snd (Option.some.inj h)
    have hP := ly_newP e2.symm hP
    have hD := ly_newD e2.symm hD
    exact W.iret (v := 0) hx hb hr (fun t ht hW => ⟨⟨0, (), rfl, e1, by rw [ht]; exact hP, va_K.moved hW.alike hK, hD⟩, hS.F ht⟩) hS.2.2 d_Tr_partsOf_18
  · have h := lf_f h c_2
    refine lv_aload_n hx hb d_Tr_partsOf_8 rfl (lv_at hl 0 rfl) ?_
    refine va_get (D := (dC, dI)) (ci := 5) (v := .ref Y.a_parts) (C := R_Tr) (T := F_Tr) (N := 18) hx hb hts (fun w h => u_Vq_Tr w (i_Tr w h)) hown hK hP 4 rfl rfl 8 (by decide) (hts _ (u_Vq_Tr _ k_Tr_13)) (fun _ h9 => h9) rfl d_Tr_partsOf_9 ?_
    refine lv_iload_n hx hb d_Tr_partsOf_12 rfl (lv_at hl 1 rfl) ?_
    obtain ⟨g_3, h⟩ := lf_gE h
    refine va_iald hx hb hK hP 23 2 rfl rfl g_3 d_Tr_partsOf_13 ?_
    refine lv_goto (tgt := 18) hx hb d_Tr_partsOf_14 (by decide) ?_
    rw [hQ]
    have e1 : (S_1.w_Tr_parts p0.toNatClampNeg) = r := congrArg Prod.fst (Option.some.inj h)
    have e2 : S_1 = S' := congrArg Prod.snd (Option.some.inj h)
    have hP := ly_newP e2.symm hP
    have hD := ly_newD e2.symm hD
    exact W.iret (v := (S_1.w_Tr_parts p0.toNatClampNeg)) hx hb hr (fun t ht hW => ⟨⟨(S_1.w_Tr_parts p0.toNatClampNeg), (), rfl, e1, by rw [ht]; exact hP, va_K.moved hW.alike hK, hD⟩, hS.F ht⟩) hS.2.2 d_Tr_partsOf_18
set_option maxHeartbeats 4000000 in
set_option maxRecDepth 100000 in
theorem l_Tr_builtOf (l : Launch) (dC : Nat → ClassId) (dI : Nat → Nat → Nat) {K : Nat} {M : CA} {E : (Nat → Prop) → State → Prop} (X : ly_X l dC dI K M E) (sz : Nat) {Y : CT} {G : CG} {S S' : CS} {p0 : Int32} {r : Int32} (h : f_Tr_builtOf K G S p0 = some (r, S')) : Met l y_Tr_builtOf (.code y_Tr_builtOf cb_Tr_builtOf 2 (some .int) :: V_Vq) ({ frames := 1, cells := 0, slots := 0, locals := 21 }) (va_Pc [.ref M.o_Tr, .int p0] (fun U => U.heap.size = sz ∧ at_ (dC, dI) (fun _ => True) (wV M Y G S) (tV M) U ∧ E (va_A (wV M Y G S) sz) U)) (va_Qi (fun (r_ : Int32) (u : Unit) => r_ = r) (fun (u : Unit) t => at_ (dC, dI) (va_A (wV M Y G S) sz) (wV M Y G S') (tV M) t) (va_A (wV M Y G S) sz)) 0 0 (va_A (wV M Y G S) sz) := by
  refine Met.ofW (cc := cb_Tr_builtOf) (maxL := 2) (ret := (some .int)) (by decide) rfl ?_
  intro p e s m args below meth c s₁ B hml hv
  obtain ⟨rfl, hsz, ⟨hP, hK, hD0⟩, hE⟩ := hv
  have hx := B.exec
  have hb := B.bytes
  have hr := B.returns
  have hts0 := atoms_spec (ws := .code y_Tr_builtOf cb_Tr_builtOf 2 (some .int) :: V_Vq) B.pre
  have hts : ∀ w ∈ V_Vq, w.before ([.ref M.o_Tr, .int p0] : List Value).toArray s = true := fun w h => hts0 w (List.mem_cons_of_mem _ h)
  have hown : s.vm.findClass R_Tr = some m.cls := findClass_of_methodNamed B.named
  subst hsz
  have hD := hD0.self (sz := s.heap.size)
  generalize hAe : va_A (wV M Y G S) s.heap.size = A at hD hE ⊢
  have hA : ∀ q : Nat, s.heap.size ≤ q → A q := fun q h => by rw [← hAe]; exact Or.inr h
  have hS : va_S A s.heap s.heap [] := va_S.rf
  have hP : va_P (dC, dI) classes (wV M Y G S) s.heap := hP
  have hK : va_K (dC, dI) classes (tV M) s := hK
  have hEw : ∀ (H : Heap) (locs : List Loc), va_S A s.heap H locs → ∀ U : State, U.heap = H → s.WarmedH U.vm → E A U := fun H locs hS U hU hW => X.kept A s U H locs hE hS hU hW
  have hl := lv_entry ([.ref M.o_Tr, .int p0]) (n := 2) (Nat.le_of_ble_eq_true rfl)
  rw [lg_entry_eq]
  generalize (lg_sl ([.ref M.o_Tr, .int p0]) ++ List.replicate (2 - (lg_sl ([.ref M.o_Tr, .int p0])).length) Slot.unset).toArray = ls at hl ⊢
  have hl : lv_has ls 2 [(0, .ref M.o_Tr), (1, .int p0)] := hl
  refine qabs (fun Q hQ => ?_)
  rw [f_Tr_builtOf] at h
  refine lv_aload_n hx hb d_Tr_builtOf_0 rfl (lv_at hl 0 rfl) ?_
  refine lv_iload_n hx hb d_Tr_builtOf_1 rfl (lv_at hl 1 rfl) ?_
  obtain ⟨r_1, S_1, hc_1, h⟩ := lf_cE h
  have hFc := lx_free hD hS hA
  refine va_calli (va_runV (As := [.int p0]) (rest := []) ⟨hx, hb, hml, hown, hts⟩ (l_Tr_has l dC dI X _ hc_1) (cwV 1 hts (gwV good_Vq (u_Vq_Tr _ k_Tr_38) (u_Vq_Tr _ k_Tr_39) (u_Vq_Tr _ k_Tr_40) (u_Vq_Tr _ k_Tr_0) (wcs (u_Vq_Tr _ k_Tr_41) (fun _ h => h))) rfl rfl rfl (by decide +kernel) ⟨Nat.le_of_ble_eq_true rfl, Nat.le_of_ble_eq_true rfl⟩) (pv_ofE (X.same _) (fun U z1 z2 => X.mono _ _ U hFc (hEw _ _ hS U z1 z2)) hP hK hD (va_recv hK hP (ci := 5) (q0 := 4) rfl rfl)) rfl rfl hl.1 rfl (lv_room (Nat.le_of_ble_eq_true rfl)) d_Tr_builtOf_2 ⟨by decide, by decide⟩) hS (fun q _ h => hFc q h) hFc (fun r_ u t H locs ht hvm hw hB hz1 hk1 hS => ?_)
  rw [hw]
  obtain ⟨hP, -, hD⟩ := hB
  rw [ht] at hP
  have hD := lx_dj hD hFc
  refine lv_if_eq (tgt := 17) hx hb d_Tr_builtOf_5 (by decide) (fun c_2 => ?_) (fun c_2 => ?_)
  · have h := lf_t h c_2
    refine lv_iconst (v := 0) hx hb d_Tr_builtOf_17 (by decide) ?_
    rw [hQ]
    have e1 : (0 : Int32) = r := congrArg Prod.fst (Option.some.inj h)
    have e2 : S_1 = S' := congrArg Prod.snd (Option.some.inj h)
    have hP := ly_newP e2.symm hP
    have hD := ly_newD e2.symm hD
    exact W.iret (v := 0) hx hb hr (fun t ht hW => ⟨⟨0, (), rfl, e1, by rw [ht]; exact hP, va_K.moved hW.alike hK, hD⟩, hS.F ht⟩) hS.2.2 d_Tr_builtOf_18
  · have h := lf_f h c_2
    refine lv_aload_n hx hb d_Tr_builtOf_8 rfl (lv_at hl 0 rfl) ?_
    refine va_get (D := (dC, dI)) (ci := 5) (v := .ref Y.a_built) (C := R_Tr) (T := F_Tr) (N := 18) hx hb hts (fun w h => u_Vq_Tr w (i_Tr w h)) hown hK hP 4 rfl rfl 14 (by decide) (hts _ (u_Vq_Tr _ k_Tr_19)) (fun _ h9 => h9) rfl d_Tr_builtOf_9 ?_
    refine lv_iload_n hx hb d_Tr_builtOf_12 rfl (lv_at hl 1 rfl) ?_
    obtain ⟨g_3, h⟩ := lf_gE h
    refine va_iald hx hb hK hP 29 2 rfl rfl g_3 d_Tr_builtOf_13 ?_
    refine lv_goto (tgt := 18) hx hb d_Tr_builtOf_14 (by decide) ?_
    rw [hQ]
    have e1 : (S_1.w_Tr_built p0.toNatClampNeg) = r := congrArg Prod.fst (Option.some.inj h)
    have e2 : S_1 = S' := congrArg Prod.snd (Option.some.inj h)
    have hP := ly_newP e2.symm hP
    have hD := ly_newD e2.symm hD
    exact W.iret (v := (S_1.w_Tr_built p0.toNatClampNeg)) hx hb hr (fun t ht hW => ⟨⟨(S_1.w_Tr_built p0.toNatClampNeg), (), rfl, e1, by rw [ht]; exact hP, va_K.moved hW.alike hK, hD⟩, hS.F ht⟩) hS.2.2 d_Tr_builtOf_18
set_option maxHeartbeats 4000000 in
set_option maxRecDepth 100000 in
theorem l_Tr_builtBlocksOf (l : Launch) (dC : Nat → ClassId) (dI : Nat → Nat → Nat) {K : Nat} {M : CA} {E : (Nat → Prop) → State → Prop} (X : ly_X l dC dI K M E) (sz : Nat) {Y : CT} {G : CG} {S S' : CS} {p0 : Int32} {r : Int32} (h : f_Tr_builtBlocksOf K G S p0 = some (r, S')) : Met l y_Tr_builtBlocksOf (.code y_Tr_builtBlocksOf cb_Tr_builtBlocksOf 2 (some .int) :: V_Vq) ({ frames := 1, cells := 0, slots := 0, locals := 21 }) (va_Pc [.ref M.o_Tr, .int p0] (fun U => U.heap.size = sz ∧ at_ (dC, dI) (fun _ => True) (wV M Y G S) (tV M) U ∧ E (va_A (wV M Y G S) sz) U)) (va_Qi (fun (r_ : Int32) (u : Unit) => r_ = r) (fun (u : Unit) t => at_ (dC, dI) (va_A (wV M Y G S) sz) (wV M Y G S') (tV M) t) (va_A (wV M Y G S) sz)) 0 0 (va_A (wV M Y G S) sz) := by
  refine Met.ofW (cc := cb_Tr_builtBlocksOf) (maxL := 2) (ret := (some .int)) (by decide) rfl ?_
  intro p e s m args below meth c s₁ B hml hv
  obtain ⟨rfl, hsz, ⟨hP, hK, hD0⟩, hE⟩ := hv
  have hx := B.exec
  have hb := B.bytes
  have hr := B.returns
  have hts0 := atoms_spec (ws := .code y_Tr_builtBlocksOf cb_Tr_builtBlocksOf 2 (some .int) :: V_Vq) B.pre
  have hts : ∀ w ∈ V_Vq, w.before ([.ref M.o_Tr, .int p0] : List Value).toArray s = true := fun w h => hts0 w (List.mem_cons_of_mem _ h)
  have hown : s.vm.findClass R_Tr = some m.cls := findClass_of_methodNamed B.named
  subst hsz
  have hD := hD0.self (sz := s.heap.size)
  generalize hAe : va_A (wV M Y G S) s.heap.size = A at hD hE ⊢
  have hA : ∀ q : Nat, s.heap.size ≤ q → A q := fun q h => by rw [← hAe]; exact Or.inr h
  have hS : va_S A s.heap s.heap [] := va_S.rf
  have hP : va_P (dC, dI) classes (wV M Y G S) s.heap := hP
  have hK : va_K (dC, dI) classes (tV M) s := hK
  have hEw : ∀ (H : Heap) (locs : List Loc), va_S A s.heap H locs → ∀ U : State, U.heap = H → s.WarmedH U.vm → E A U := fun H locs hS U hU hW => X.kept A s U H locs hE hS hU hW
  have hl := lv_entry ([.ref M.o_Tr, .int p0]) (n := 2) (Nat.le_of_ble_eq_true rfl)
  rw [lg_entry_eq]
  generalize (lg_sl ([.ref M.o_Tr, .int p0]) ++ List.replicate (2 - (lg_sl ([.ref M.o_Tr, .int p0])).length) Slot.unset).toArray = ls at hl ⊢
  have hl : lv_has ls 2 [(0, .ref M.o_Tr), (1, .int p0)] := hl
  refine qabs (fun Q hQ => ?_)
  rw [f_Tr_builtBlocksOf] at h
  refine lv_aload_n hx hb d_Tr_builtBlocksOf_0 rfl (lv_at hl 0 rfl) ?_
  refine lv_iload_n hx hb d_Tr_builtBlocksOf_1 rfl (lv_at hl 1 rfl) ?_
  obtain ⟨r_1, S_1, hc_1, h⟩ := lf_cE h
  have hFc := lx_free hD hS hA
  refine va_calli (va_runV (As := [.int p0]) (rest := []) ⟨hx, hb, hml, hown, hts⟩ (l_Tr_has l dC dI X _ hc_1) (cwV 1 hts (gwV good_Vq (u_Vq_Tr _ k_Tr_38) (u_Vq_Tr _ k_Tr_39) (u_Vq_Tr _ k_Tr_40) (u_Vq_Tr _ k_Tr_0) (wcs (u_Vq_Tr _ k_Tr_41) (fun _ h => h))) rfl rfl rfl (by decide +kernel) ⟨Nat.le_of_ble_eq_true rfl, Nat.le_of_ble_eq_true rfl⟩) (pv_ofE (X.same _) (fun U z1 z2 => X.mono _ _ U hFc (hEw _ _ hS U z1 z2)) hP hK hD (va_recv hK hP (ci := 5) (q0 := 4) rfl rfl)) rfl rfl hl.1 rfl (lv_room (Nat.le_of_ble_eq_true rfl)) d_Tr_builtBlocksOf_2 ⟨by decide, by decide⟩) hS (fun q _ h => hFc q h) hFc (fun r_ u t H locs ht hvm hw hB hz1 hk1 hS => ?_)
  rw [hw]
  obtain ⟨hP, -, hD⟩ := hB
  rw [ht] at hP
  have hD := lx_dj hD hFc
  refine lv_if_eq (tgt := 17) hx hb d_Tr_builtBlocksOf_5 (by decide) (fun c_2 => ?_) (fun c_2 => ?_)
  · have h := lf_t h c_2
    refine lv_iconst (v := 0) hx hb d_Tr_builtBlocksOf_17 (by decide) ?_
    rw [hQ]
    have e1 : (0 : Int32) = r := congrArg Prod.fst (Option.some.inj h)
    have e2 : S_1 = S' := congrArg Prod.snd (Option.some.inj h)
    have hP := ly_newP e2.symm hP
    have hD := ly_newD e2.symm hD
    exact W.iret (v := 0) hx hb hr (fun t ht hW => ⟨⟨0, (), rfl, e1, by rw [ht]; exact hP, va_K.moved hW.alike hK, hD⟩, hS.F ht⟩) hS.2.2 d_Tr_builtBlocksOf_18
  · have h := lf_f h c_2
    refine lv_aload_n hx hb d_Tr_builtBlocksOf_8 rfl (lv_at hl 0 rfl) ?_
    refine va_get (D := (dC, dI)) (ci := 5) (v := .ref Y.a_builtBlocks) (C := R_Tr) (T := F_Tr) (N := 18) hx hb hts (fun w h => u_Vq_Tr w (i_Tr w h)) hown hK hP 4 rfl rfl 15 (by decide) (hts _ (u_Vq_Tr _ k_Tr_20)) (fun _ h9 => h9) rfl d_Tr_builtBlocksOf_9 ?_
    refine lv_iload_n hx hb d_Tr_builtBlocksOf_12 rfl (lv_at hl 1 rfl) ?_
    obtain ⟨g_3, h⟩ := lf_gE h
    refine va_iald hx hb hK hP 30 2 rfl rfl g_3 d_Tr_builtBlocksOf_13 ?_
    refine lv_goto (tgt := 18) hx hb d_Tr_builtBlocksOf_14 (by decide) ?_
    rw [hQ]
    have e1 : (S_1.w_Tr_builtBlocks p0.toNatClampNeg) = r := congrArg Prod.fst (Option.some.inj h)
    have e2 : S_1 = S' := congrArg Prod.snd (Option.some.inj h)
    have hP := ly_newP e2.symm hP
    have hD := ly_newD e2.symm hD
    exact W.iret (v := (S_1.w_Tr_builtBlocks p0.toNatClampNeg)) hx hb hr (fun t ht hW => ⟨⟨(S_1.w_Tr_builtBlocks p0.toNatClampNeg), (), rfl, e1, by rw [ht]; exact hP, va_K.moved hW.alike hK, hD⟩, hS.F ht⟩) hS.2.2 d_Tr_builtBlocksOf_18
set_option maxHeartbeats 4000000 in
set_option maxRecDepth 100000 in
theorem l_Tr_slotOf (l : Launch) (dC : Nat → ClassId) (dI : Nat → Nat → Nat) {K : Nat} {M : CA} {E : (Nat → Prop) → State → Prop} (X : ly_X l dC dI K M E) (sz : Nat) {Y : CT} {G : CG} {S S' : CS} {p0 : Int32} {r : Int32} (h : f_Tr_slotOf K G S p0 = some (r, S')) : Met l y_Tr_slotOf (.code y_Tr_slotOf cb_Tr_slotOf 2 (some .int) :: V_Vq) ({ frames := 1, cells := 0, slots := 0, locals := 21 }) (va_Pc [.ref M.o_Tr, .int p0] (fun U => U.heap.size = sz ∧ at_ (dC, dI) (fun _ => True) (wV M Y G S) (tV M) U ∧ E (va_A (wV M Y G S) sz) U)) (va_Qi (fun (r_ : Int32) (u : Unit) => r_ = r) (fun (u : Unit) t => at_ (dC, dI) (va_A (wV M Y G S) sz) (wV M Y G S') (tV M) t) (va_A (wV M Y G S) sz)) 0 0 (va_A (wV M Y G S) sz) := by
  refine Met.ofW (cc := cb_Tr_slotOf) (maxL := 2) (ret := (some .int)) (by decide) rfl ?_
  intro p e s m args below meth c s₁ B hml hv
  obtain ⟨rfl, hsz, ⟨hP, hK, hD0⟩, hE⟩ := hv
  have hx := B.exec
  have hb := B.bytes
  have hr := B.returns
  have hts0 := atoms_spec (ws := .code y_Tr_slotOf cb_Tr_slotOf 2 (some .int) :: V_Vq) B.pre
  have hts : ∀ w ∈ V_Vq, w.before ([.ref M.o_Tr, .int p0] : List Value).toArray s = true := fun w h => hts0 w (List.mem_cons_of_mem _ h)
  have hown : s.vm.findClass R_Tr = some m.cls := findClass_of_methodNamed B.named
  subst hsz
  have hD := hD0.self (sz := s.heap.size)
  generalize hAe : va_A (wV M Y G S) s.heap.size = A at hD hE ⊢
  have hA : ∀ q : Nat, s.heap.size ≤ q → A q := fun q h => by rw [← hAe]; exact Or.inr h
  have hS : va_S A s.heap s.heap [] := va_S.rf
  have hP : va_P (dC, dI) classes (wV M Y G S) s.heap := hP
  have hK : va_K (dC, dI) classes (tV M) s := hK
  have hEw : ∀ (H : Heap) (locs : List Loc), va_S A s.heap H locs → ∀ U : State, U.heap = H → s.WarmedH U.vm → E A U := fun H locs hS U hU hW => X.kept A s U H locs hE hS hU hW
  have hl := lv_entry ([.ref M.o_Tr, .int p0]) (n := 2) (Nat.le_of_ble_eq_true rfl)
  rw [lg_entry_eq]
  generalize (lg_sl ([.ref M.o_Tr, .int p0]) ++ List.replicate (2 - (lg_sl ([.ref M.o_Tr, .int p0])).length) Slot.unset).toArray = ls at hl ⊢
  have hl : lv_has ls 2 [(0, .ref M.o_Tr), (1, .int p0)] := hl
  refine qabs (fun Q hQ => ?_)
  rw [f_Tr_slotOf] at h
  refine lv_aload_n hx hb d_Tr_slotOf_0 rfl (lv_at hl 0 rfl) ?_
  refine lv_iload_n hx hb d_Tr_slotOf_1 rfl (lv_at hl 1 rfl) ?_
  obtain ⟨r_1, S_1, hc_1, h⟩ := lf_cE h
  have hFc := lx_free hD hS hA
  refine va_calli (va_runV (As := [.int p0]) (rest := []) ⟨hx, hb, hml, hown, hts⟩ (l_Tr_has l dC dI X _ hc_1) (cwV 1 hts (gwV good_Vq (u_Vq_Tr _ k_Tr_38) (u_Vq_Tr _ k_Tr_39) (u_Vq_Tr _ k_Tr_40) (u_Vq_Tr _ k_Tr_0) (wcs (u_Vq_Tr _ k_Tr_41) (fun _ h => h))) rfl rfl rfl (by decide +kernel) ⟨Nat.le_of_ble_eq_true rfl, Nat.le_of_ble_eq_true rfl⟩) (pv_ofE (X.same _) (fun U z1 z2 => X.mono _ _ U hFc (hEw _ _ hS U z1 z2)) hP hK hD (va_recv hK hP (ci := 5) (q0 := 4) rfl rfl)) rfl rfl hl.1 rfl (lv_room (Nat.le_of_ble_eq_true rfl)) d_Tr_slotOf_2 ⟨by decide, by decide⟩) hS (fun q _ h => hFc q h) hFc (fun r_ u t H locs ht hvm hw hB hz1 hk1 hS => ?_)
  rw [hw]
  obtain ⟨hP, -, hD⟩ := hB
  rw [ht] at hP
  have hD := lx_dj hD hFc
  refine lv_if_eq (tgt := 17) hx hb d_Tr_slotOf_5 (by decide) (fun c_2 => ?_) (fun c_2 => ?_)
  · have h := lf_t h c_2
    refine lv_iconst (v := 0) hx hb d_Tr_slotOf_17 (by decide) ?_
    rw [hQ]
    have e1 : (0 : Int32) = r := congrArg Prod.fst (Option.some.inj h)
    have e2 : S_1 = S' := congrArg Prod.snd (Option.some.inj h)
    have hP := ly_newP e2.symm hP
    have hD := ly_newD e2.symm hD
    exact W.iret (v := 0) hx hb hr (fun t ht hW => ⟨⟨0, (), rfl, e1, by rw [ht]; exact hP, va_K.moved hW.alike hK, hD⟩, hS.F ht⟩) hS.2.2 d_Tr_slotOf_18
  · have h := lf_f h c_2
    refine lv_aload_n hx hb d_Tr_slotOf_8 rfl (lv_at hl 0 rfl) ?_
    refine va_get (D := (dC, dI)) (ci := 5) (v := .ref Y.a_slot) (C := R_Tr) (T := F_Tr) (N := 18) hx hb hts (fun w h => u_Vq_Tr w (i_Tr w h)) hown hK hP 4 rfl rfl 7 (by decide) (hts _ (u_Vq_Tr _ k_Tr_12)) (fun _ h9 => h9) rfl d_Tr_slotOf_9 ?_
    refine lv_iload_n hx hb d_Tr_slotOf_12 rfl (lv_at hl 1 rfl) ?_
    obtain ⟨g_3, h⟩ := lf_gE h
    refine va_iald hx hb hK hP 22 2 rfl rfl g_3 d_Tr_slotOf_13 ?_
    refine lv_goto (tgt := 18) hx hb d_Tr_slotOf_14 (by decide) ?_
    rw [hQ]
    have e1 : (S_1.w_Tr_slot p0.toNatClampNeg) = r := congrArg Prod.fst (Option.some.inj h)
    have e2 : S_1 = S' := congrArg Prod.snd (Option.some.inj h)
    have hP := ly_newP e2.symm hP
    have hD := ly_newD e2.symm hD
    exact W.iret (v := (S_1.w_Tr_slot p0.toNatClampNeg)) hx hb hr (fun t ht hW => ⟨⟨(S_1.w_Tr_slot p0.toNatClampNeg), (), rfl, e1, by rw [ht]; exact hP, va_K.moved hW.alike hK, hD⟩, hS.F ht⟩) hS.2.2 d_Tr_slotOf_18
set_option maxHeartbeats 4000000 in
set_option maxRecDepth 100000 in
theorem l_Tr_spotOf (l : Launch) (dC : Nat → ClassId) (dI : Nat → Nat → Nat) {K : Nat} {M : CA} {E : (Nat → Prop) → State → Prop} (X : ly_X l dC dI K M E) (sz : Nat) {Y : CT} {G : CG} {S S' : CS} {p0 : Int32} {r : Int32} (h : f_Tr_spotOf K G S p0 = some (r, S')) : Met l y_Tr_spotOf (.code y_Tr_spotOf cb_Tr_spotOf 2 (some .int) :: V_Vq) ({ frames := 1, cells := 0, slots := 0, locals := 21 }) (va_Pc [.ref M.o_Tr, .int p0] (fun U => U.heap.size = sz ∧ at_ (dC, dI) (fun _ => True) (wV M Y G S) (tV M) U ∧ E (va_A (wV M Y G S) sz) U)) (va_Qi (fun (r_ : Int32) (u : Unit) => r_ = r) (fun (u : Unit) t => at_ (dC, dI) (va_A (wV M Y G S) sz) (wV M Y G S') (tV M) t) (va_A (wV M Y G S) sz)) 0 0 (va_A (wV M Y G S) sz) := by
  refine Met.ofW (cc := cb_Tr_spotOf) (maxL := 2) (ret := (some .int)) (by decide) rfl ?_
  intro p e s m args below meth c s₁ B hml hv
  obtain ⟨rfl, hsz, ⟨hP, hK, hD0⟩, hE⟩ := hv
  have hx := B.exec
  have hb := B.bytes
  have hr := B.returns
  have hts0 := atoms_spec (ws := .code y_Tr_spotOf cb_Tr_spotOf 2 (some .int) :: V_Vq) B.pre
  have hts : ∀ w ∈ V_Vq, w.before ([.ref M.o_Tr, .int p0] : List Value).toArray s = true := fun w h => hts0 w (List.mem_cons_of_mem _ h)
  have hown : s.vm.findClass R_Tr = some m.cls := findClass_of_methodNamed B.named
  subst hsz
  have hD := hD0.self (sz := s.heap.size)
  generalize hAe : va_A (wV M Y G S) s.heap.size = A at hD hE ⊢
  have hA : ∀ q : Nat, s.heap.size ≤ q → A q := fun q h => by rw [← hAe]; exact Or.inr h
  have hS : va_S A s.heap s.heap [] := va_S.rf
  have hP : va_P (dC, dI) classes (wV M Y G S) s.heap := hP
  have hK : va_K (dC, dI) classes (tV M) s := hK
  have hEw : ∀ (H : Heap) (locs : List Loc), va_S A s.heap H locs → ∀ U : State, U.heap = H → s.WarmedH U.vm → E A U := fun H locs hS U hU hW => X.kept A s U H locs hE hS hU hW
  have hl := lv_entry ([.ref M.o_Tr, .int p0]) (n := 2) (Nat.le_of_ble_eq_true rfl)
  rw [lg_entry_eq]
  generalize (lg_sl ([.ref M.o_Tr, .int p0]) ++ List.replicate (2 - (lg_sl ([.ref M.o_Tr, .int p0])).length) Slot.unset).toArray = ls at hl ⊢
  have hl : lv_has ls 2 [(0, .ref M.o_Tr), (1, .int p0)] := hl
  refine qabs (fun Q hQ => ?_)
  rw [f_Tr_spotOf] at h
  refine lv_aload_n hx hb d_Tr_spotOf_0 rfl (lv_at hl 0 rfl) ?_
  refine lv_iload_n hx hb d_Tr_spotOf_1 rfl (lv_at hl 1 rfl) ?_
  obtain ⟨r_1, S_1, hc_1, h⟩ := lf_cE h
  have hFc := lx_free hD hS hA
  refine va_calli (va_runV (As := [.int p0]) (rest := []) ⟨hx, hb, hml, hown, hts⟩ (l_Tr_has l dC dI X _ hc_1) (cwV 1 hts (gwV good_Vq (u_Vq_Tr _ k_Tr_38) (u_Vq_Tr _ k_Tr_39) (u_Vq_Tr _ k_Tr_40) (u_Vq_Tr _ k_Tr_0) (wcs (u_Vq_Tr _ k_Tr_41) (fun _ h => h))) rfl rfl rfl (by decide +kernel) ⟨Nat.le_of_ble_eq_true rfl, Nat.le_of_ble_eq_true rfl⟩) (pv_ofE (X.same _) (fun U z1 z2 => X.mono _ _ U hFc (hEw _ _ hS U z1 z2)) hP hK hD (va_recv hK hP (ci := 5) (q0 := 4) rfl rfl)) rfl rfl hl.1 rfl (lv_room (Nat.le_of_ble_eq_true rfl)) d_Tr_spotOf_2 ⟨by decide, by decide⟩) hS (fun q _ h => hFc q h) hFc (fun r_ u t H locs ht hvm hw hB hz1 hk1 hS => ?_)
  rw [hw]
  obtain ⟨hP, -, hD⟩ := hB
  rw [ht] at hP
  have hD := lx_dj hD hFc
  refine lv_if_eq (tgt := 17) hx hb d_Tr_spotOf_5 (by decide) (fun c_2 => ?_) (fun c_2 => ?_)
  · have h := lf_t h c_2
    refine lv_iconst (v := 0) hx hb d_Tr_spotOf_17 (by decide) ?_
    rw [hQ]
    have e1 : (0 : Int32) = r := congrArg Prod.fst (Option.some.inj h)
    have e2 : S_1 = S' := congrArg Prod.snd (Option.some.inj h)
    have hP := ly_newP e2.symm hP
    have hD := ly_newD e2.symm hD
    exact W.iret (v := 0) hx hb hr (fun t ht hW => ⟨⟨0, (), rfl, e1, by rw [ht]; exact hP, va_K.moved hW.alike hK, hD⟩, hS.F ht⟩) hS.2.2 d_Tr_spotOf_18
  · have h := lf_f h c_2
    refine lv_aload_n hx hb d_Tr_spotOf_8 rfl (lv_at hl 0 rfl) ?_
    refine va_get (D := (dC, dI)) (ci := 5) (v := .ref Y.a_spot) (C := R_Tr) (T := F_Tr) (N := 18) hx hb hts (fun w h => u_Vq_Tr w (i_Tr w h)) hown hK hP 4 rfl rfl 6 (by decide) (hts _ (u_Vq_Tr _ k_Tr_11)) (fun _ h9 => h9) rfl d_Tr_spotOf_9 ?_
    refine lv_iload_n hx hb d_Tr_spotOf_12 rfl (lv_at hl 1 rfl) ?_
    obtain ⟨g_3, h⟩ := lf_gE h
    refine va_iald hx hb hK hP 21 2 rfl rfl g_3 d_Tr_spotOf_13 ?_
    refine lv_goto (tgt := 18) hx hb d_Tr_spotOf_14 (by decide) ?_
    rw [hQ]
    have e1 : (S_1.w_Tr_spot p0.toNatClampNeg) = r := congrArg Prod.fst (Option.some.inj h)
    have e2 : S_1 = S' := congrArg Prod.snd (Option.some.inj h)
    have hP := ly_newP e2.symm hP
    have hD := ly_newD e2.symm hD
    exact W.iret (v := (S_1.w_Tr_spot p0.toNatClampNeg)) hx hb hr (fun t ht hW => ⟨⟨(S_1.w_Tr_spot p0.toNatClampNeg), (), rfl, e1, by rw [ht]; exact hP, va_K.moved hW.alike hK, hD⟩, hS.F ht⟩) hS.2.2 d_Tr_spotOf_18
set_option maxHeartbeats 4000000 in
set_option maxRecDepth 100000 in
theorem l_Tr_sizeOf (l : Launch) (dC : Nat → ClassId) (dI : Nat → Nat → Nat) {K : Nat} {M : CA} {E : (Nat → Prop) → State → Prop} (X : ly_X l dC dI K M E) (sz : Nat) {Y : CT} {G : CG} {S S' : CS} {p0 : Int32} {r : Int32} (h : f_Tr_sizeOf K G S p0 = some (r, S')) : Met l y_Tr_sizeOf (.code y_Tr_sizeOf cb_Tr_sizeOf 2 (some .int) :: V_Vq) ({ frames := 1, cells := 0, slots := 0, locals := 21 }) (va_Pc [.ref M.o_Tr, .int p0] (fun U => U.heap.size = sz ∧ at_ (dC, dI) (fun _ => True) (wV M Y G S) (tV M) U ∧ E (va_A (wV M Y G S) sz) U)) (va_Qi (fun (r_ : Int32) (u : Unit) => r_ = r) (fun (u : Unit) t => at_ (dC, dI) (va_A (wV M Y G S) sz) (wV M Y G S') (tV M) t) (va_A (wV M Y G S) sz)) 0 0 (va_A (wV M Y G S) sz) := by
  refine Met.ofW (cc := cb_Tr_sizeOf) (maxL := 2) (ret := (some .int)) (by decide) rfl ?_
  intro p e s m args below meth c s₁ B hml hv
  obtain ⟨rfl, hsz, ⟨hP, hK, hD0⟩, hE⟩ := hv
  have hx := B.exec
  have hb := B.bytes
  have hr := B.returns
  have hts0 := atoms_spec (ws := .code y_Tr_sizeOf cb_Tr_sizeOf 2 (some .int) :: V_Vq) B.pre
  have hts : ∀ w ∈ V_Vq, w.before ([.ref M.o_Tr, .int p0] : List Value).toArray s = true := fun w h => hts0 w (List.mem_cons_of_mem _ h)
  have hown : s.vm.findClass R_Tr = some m.cls := findClass_of_methodNamed B.named
  subst hsz
  have hD := hD0.self (sz := s.heap.size)
  generalize hAe : va_A (wV M Y G S) s.heap.size = A at hD hE ⊢
  have hA : ∀ q : Nat, s.heap.size ≤ q → A q := fun q h => by rw [← hAe]; exact Or.inr h
  have hS : va_S A s.heap s.heap [] := va_S.rf
  have hP : va_P (dC, dI) classes (wV M Y G S) s.heap := hP
  have hK : va_K (dC, dI) classes (tV M) s := hK
  have hEw : ∀ (H : Heap) (locs : List Loc), va_S A s.heap H locs → ∀ U : State, U.heap = H → s.WarmedH U.vm → E A U := fun H locs hS U hU hW => X.kept A s U H locs hE hS hU hW
  have hl := lv_entry ([.ref M.o_Tr, .int p0]) (n := 2) (Nat.le_of_ble_eq_true rfl)
  rw [lg_entry_eq]
  generalize (lg_sl ([.ref M.o_Tr, .int p0]) ++ List.replicate (2 - (lg_sl ([.ref M.o_Tr, .int p0])).length) Slot.unset).toArray = ls at hl ⊢
  have hl : lv_has ls 2 [(0, .ref M.o_Tr), (1, .int p0)] := hl
  refine qabs (fun Q hQ => ?_)
  rw [f_Tr_sizeOf] at h
  refine lv_aload_n hx hb d_Tr_sizeOf_0 rfl (lv_at hl 0 rfl) ?_
  refine lv_iload_n hx hb d_Tr_sizeOf_1 rfl (lv_at hl 1 rfl) ?_
  obtain ⟨r_1, S_1, hc_1, h⟩ := lf_cE h
  have hFc := lx_free hD hS hA
  refine va_calli (va_runV (As := [.int p0]) (rest := []) ⟨hx, hb, hml, hown, hts⟩ (l_Tr_has l dC dI X _ hc_1) (cwV 1 hts (gwV good_Vq (u_Vq_Tr _ k_Tr_38) (u_Vq_Tr _ k_Tr_39) (u_Vq_Tr _ k_Tr_40) (u_Vq_Tr _ k_Tr_0) (wcs (u_Vq_Tr _ k_Tr_41) (fun _ h => h))) rfl rfl rfl (by decide +kernel) ⟨Nat.le_of_ble_eq_true rfl, Nat.le_of_ble_eq_true rfl⟩) (pv_ofE (X.same _) (fun U z1 z2 => X.mono _ _ U hFc (hEw _ _ hS U z1 z2)) hP hK hD (va_recv hK hP (ci := 5) (q0 := 4) rfl rfl)) rfl rfl hl.1 rfl (lv_room (Nat.le_of_ble_eq_true rfl)) d_Tr_sizeOf_2 ⟨by decide, by decide⟩) hS (fun q _ h => hFc q h) hFc (fun r_ u t H locs ht hvm hw hB hz1 hk1 hS => ?_)
  rw [hw]
  obtain ⟨hP, -, hD⟩ := hB
  rw [ht] at hP
  have hD := lx_dj hD hFc
  refine lv_if_eq (tgt := 17) hx hb d_Tr_sizeOf_5 (by decide) (fun c_2 => ?_) (fun c_2 => ?_)
  · have h := lf_t h c_2
    refine lv_iconst (v := 0) hx hb d_Tr_sizeOf_17 (by decide) ?_
    rw [hQ]
    have e1 : (0 : Int32) = r := congrArg Prod.fst (Option.some.inj h)
    have e2 : S_1 = S' := congrArg Prod.snd (Option.some.inj h)
    have hP := ly_newP e2.symm hP
    have hD := ly_newD e2.symm hD
    exact W.iret (v := 0) hx hb hr (fun t ht hW => ⟨⟨0, (), rfl, e1, by rw [ht]; exact hP, va_K.moved hW.alike hK, hD⟩, hS.F ht⟩) hS.2.2 d_Tr_sizeOf_18
  · have h := lf_f h c_2
    refine lv_aload_n hx hb d_Tr_sizeOf_8 rfl (lv_at hl 0 rfl) ?_
    refine va_get (D := (dC, dI)) (ci := 5) (v := .ref Y.a_size) (C := R_Tr) (T := F_Tr) (N := 18) hx hb hts (fun w h => u_Vq_Tr w (i_Tr w h)) hown hK hP 4 rfl rfl 4 (by decide) (hts _ (u_Vq_Tr _ k_Tr_9)) (fun _ h9 => h9) rfl d_Tr_sizeOf_9 ?_
    refine lv_iload_n hx hb d_Tr_sizeOf_12 rfl (lv_at hl 1 rfl) ?_
    obtain ⟨g_3, h⟩ := lf_gE h
    refine va_iald hx hb hK hP 19 2 rfl rfl g_3 d_Tr_sizeOf_13 ?_
    refine lv_goto (tgt := 18) hx hb d_Tr_sizeOf_14 (by decide) ?_
    rw [hQ]
    have e1 : (S_1.w_Tr_size p0.toNatClampNeg) = r := congrArg Prod.fst (Option.some.inj h)
    have e2 : S_1 = S' := congrArg Prod.snd (Option.some.inj h)
    have hP := ly_newP e2.symm hP
    have hD := ly_newD e2.symm hD
    exact W.iret (v := (S_1.w_Tr_size p0.toNatClampNeg)) hx hb hr (fun t ht hW => ⟨⟨(S_1.w_Tr_size p0.toNatClampNeg), (), rfl, e1, by rw [ht]; exact hP, va_K.moved hW.alike hK, hD⟩, hS.F ht⟩) hS.2.2 d_Tr_sizeOf_18
set_option maxHeartbeats 4000000 in
set_option maxRecDepth 100000 in
theorem l_Tr_firstOf (l : Launch) (dC : Nat → ClassId) (dI : Nat → Nat → Nat) {K : Nat} {M : CA} {E : (Nat → Prop) → State → Prop} (X : ly_X l dC dI K M E) (sz : Nat) {Y : CT} {G : CG} {S S' : CS} {p0 : Int32} {r : Int32} (h : f_Tr_firstOf K G S p0 = some (r, S')) : Met l y_Tr_firstOf (.code y_Tr_firstOf cb_Tr_firstOf 2 (some .int) :: V_Vq) ({ frames := 1, cells := 0, slots := 0, locals := 21 }) (va_Pc [.ref M.o_Tr, .int p0] (fun U => U.heap.size = sz ∧ at_ (dC, dI) (fun _ => True) (wV M Y G S) (tV M) U ∧ E (va_A (wV M Y G S) sz) U)) (va_Qi (fun (r_ : Int32) (u : Unit) => r_ = r) (fun (u : Unit) t => at_ (dC, dI) (va_A (wV M Y G S) sz) (wV M Y G S') (tV M) t) (va_A (wV M Y G S) sz)) 0 0 (va_A (wV M Y G S) sz) := by
  refine Met.ofW (cc := cb_Tr_firstOf) (maxL := 2) (ret := (some .int)) (by decide) rfl ?_
  intro p e s m args below meth c s₁ B hml hv
  obtain ⟨rfl, hsz, ⟨hP, hK, hD0⟩, hE⟩ := hv
  have hx := B.exec
  have hb := B.bytes
  have hr := B.returns
  have hts0 := atoms_spec (ws := .code y_Tr_firstOf cb_Tr_firstOf 2 (some .int) :: V_Vq) B.pre
  have hts : ∀ w ∈ V_Vq, w.before ([.ref M.o_Tr, .int p0] : List Value).toArray s = true := fun w h => hts0 w (List.mem_cons_of_mem _ h)
  have hown : s.vm.findClass R_Tr = some m.cls := findClass_of_methodNamed B.named
  subst hsz
  have hD := hD0.self (sz := s.heap.size)
  generalize hAe : va_A (wV M Y G S) s.heap.size = A at hD hE ⊢
  have hA : ∀ q : Nat, s.heap.size ≤ q → A q := fun q h => by rw [← hAe]; exact Or.inr h
  have hS : va_S A s.heap s.heap [] := va_S.rf
  have hP : va_P (dC, dI) classes (wV M Y G S) s.heap := hP
  have hK : va_K (dC, dI) classes (tV M) s := hK
  have hEw : ∀ (H : Heap) (locs : List Loc), va_S A s.heap H locs → ∀ U : State, U.heap = H → s.WarmedH U.vm → E A U := fun H locs hS U hU hW => X.kept A s U H locs hE hS hU hW
  have hl := lv_entry ([.ref M.o_Tr, .int p0]) (n := 2) (Nat.le_of_ble_eq_true rfl)
  rw [lg_entry_eq]
  generalize (lg_sl ([.ref M.o_Tr, .int p0]) ++ List.replicate (2 - (lg_sl ([.ref M.o_Tr, .int p0])).length) Slot.unset).toArray = ls at hl ⊢
  have hl : lv_has ls 2 [(0, .ref M.o_Tr), (1, .int p0)] := hl
  refine qabs (fun Q hQ => ?_)
  rw [f_Tr_firstOf] at h
  refine lv_aload_n hx hb d_Tr_firstOf_0 rfl (lv_at hl 0 rfl) ?_
  refine lv_iload_n hx hb d_Tr_firstOf_1 rfl (lv_at hl 1 rfl) ?_
  obtain ⟨r_1, S_1, hc_1, h⟩ := lf_cE h
  have hFc := lx_free hD hS hA
  refine va_calli (va_runV (As := [.int p0]) (rest := []) ⟨hx, hb, hml, hown, hts⟩ (l_Tr_has l dC dI X _ hc_1) (cwV 1 hts (gwV good_Vq (u_Vq_Tr _ k_Tr_38) (u_Vq_Tr _ k_Tr_39) (u_Vq_Tr _ k_Tr_40) (u_Vq_Tr _ k_Tr_0) (wcs (u_Vq_Tr _ k_Tr_41) (fun _ h => h))) rfl rfl rfl (by decide +kernel) ⟨Nat.le_of_ble_eq_true rfl, Nat.le_of_ble_eq_true rfl⟩) (pv_ofE (X.same _) (fun U z1 z2 => X.mono _ _ U hFc (hEw _ _ hS U z1 z2)) hP hK hD (va_recv hK hP (ci := 5) (q0 := 4) rfl rfl)) rfl rfl hl.1 rfl (lv_room (Nat.le_of_ble_eq_true rfl)) d_Tr_firstOf_2 ⟨by decide, by decide⟩) hS (fun q _ h => hFc q h) hFc (fun r_ u t H locs ht hvm hw hB hz1 hk1 hS => ?_)
  rw [hw]
  obtain ⟨hP, -, hD⟩ := hB
  rw [ht] at hP
  have hD := lx_dj hD hFc
  refine lv_if_eq (tgt := 17) hx hb d_Tr_firstOf_5 (by decide) (fun c_2 => ?_) (fun c_2 => ?_)
  · have h := lf_t h c_2
    refine lv_iconst (v := 0) hx hb d_Tr_firstOf_17 (by decide) ?_
    rw [hQ]
    have e1 : (0 : Int32) = r := congrArg Prod.fst (Option.some.inj h)
    have e2 : S_1 = S' := congrArg Prod.snd (Option.some.inj h)
    have hP := ly_newP e2.symm hP
    have hD := ly_newD e2.symm hD
    exact W.iret (v := 0) hx hb hr (fun t ht hW => ⟨⟨0, (), rfl, e1, by rw [ht]; exact hP, va_K.moved hW.alike hK, hD⟩, hS.F ht⟩) hS.2.2 d_Tr_firstOf_18
  · have h := lf_f h c_2
    refine lv_aload_n hx hb d_Tr_firstOf_8 rfl (lv_at hl 0 rfl) ?_
    refine va_get (D := (dC, dI)) (ci := 5) (v := .ref Y.a_first) (C := R_Tr) (T := F_Tr) (N := 18) hx hb hts (fun w h => u_Vq_Tr w (i_Tr w h)) hown hK hP 4 rfl rfl 3 (by decide) (hts _ (u_Vq_Tr _ k_Tr_8)) (fun _ h9 => h9) rfl d_Tr_firstOf_9 ?_
    refine lv_iload_n hx hb d_Tr_firstOf_12 rfl (lv_at hl 1 rfl) ?_
    obtain ⟨g_3, h⟩ := lf_gE h
    refine va_iald hx hb hK hP 18 2 rfl rfl g_3 d_Tr_firstOf_13 ?_
    refine lv_goto (tgt := 18) hx hb d_Tr_firstOf_14 (by decide) ?_
    rw [hQ]
    have e1 : (S_1.w_Tr_first p0.toNatClampNeg) = r := congrArg Prod.fst (Option.some.inj h)
    have e2 : S_1 = S' := congrArg Prod.snd (Option.some.inj h)
    have hP := ly_newP e2.symm hP
    have hD := ly_newD e2.symm hD
    exact W.iret (v := (S_1.w_Tr_first p0.toNatClampNeg)) hx hb hr (fun t ht hW => ⟨⟨(S_1.w_Tr_first p0.toNatClampNeg), (), rfl, e1, by rw [ht]; exact hP, va_K.moved hW.alike hK, hD⟩, hS.F ht⟩) hS.2.2 d_Tr_firstOf_18
