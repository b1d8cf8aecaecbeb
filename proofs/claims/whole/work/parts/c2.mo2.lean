set_option maxHeartbeats 4000000 in
set_option maxRecDepth 100000 in
theorem l_Mo_scan (l : Launch) (dC : Nat → ClassId) (dI : Nat → Nat → Nat) {K : Nat} {M : MA} {E : (Nat → Prop) → State → Prop} (X : lx_X l dC dI K M E) (sz : Nat) {S S' : MS} {p0 : Int32} (h : f_Mo_scan K S p0 = some S') : Met l y_Mo_scan (.code y_Mo_scan b_Mo_scan 4 none :: V_Mq) ({ frames := 10, cells := 0, slots := 0, locals := 295 }) (va_Pc [.ref M.o, .int p0] (fun U => U.heap.size = sz ∧ at_ (dC, dI) (fun _ => True) (wM M S) (tM M) U ∧ E (va_A (wM M S) sz) U)) (va_Qv (fun (u : Unit) => True) (fun (u : Unit) t => at_ (dC, dI) (va_A (wM M S) sz) (wM M S') (tM M) t) (va_A (wM M S) sz)) 0 0 (va_A (wM M S) sz) := by
  refine Met.ofW (cc := b_Mo_scan) (maxL := 4) (ret := none) (by decide) rfl ?_
  intro p e s m args below meth c s₁ B hml hv
  obtain ⟨rfl, hsz, ⟨hP, hK, hD0⟩, hE⟩ := hv
  have hx := B.exec
  have hb := B.bytes
  have hr := B.returns
  have hts0 := atoms_spec (ws := .code y_Mo_scan b_Mo_scan 4 none :: V_Mq) B.pre
  have hts : ∀ w ∈ V_Mq, w.before ([.ref M.o, .int p0] : List Value).toArray s = true := fun w h => hts0 w (List.mem_cons_of_mem _ h)
  have hown : s.vm.findClass R_Mo = some m.cls := findClass_of_methodNamed B.named
  subst hsz
  have hD := hD0.self (sz := s.heap.size)
  generalize hAe : va_A (wM M S) s.heap.size = A at hD hE ⊢
  have hA : ∀ q : Nat, s.heap.size ≤ q → A q := fun q h => by rw [← hAe]; exact Or.inr h
  have hS : va_S A s.heap s.heap [] := va_S.rf
  have hP : va_P (dC, dI) classes (wM M S) s.heap := hP
  have hK : va_K (dC, dI) classes (tM M) s := hK
  have hEw : ∀ (H : Heap) (locs : List Loc), va_S A s.heap H locs → ∀ U : State, U.heap = H → s.WarmedH U.vm → E A U := fun H locs hS U hU hW => X.kept A s U H locs hE hS hU hW
  have hl := lv_entry ([.ref M.o, .int p0]) (n := 4) (Nat.le_of_ble_eq_true rfl)
  rw [lg_entry_eq]
  generalize (lg_sl ([.ref M.o, .int p0]) ++ List.replicate (4 - (lg_sl ([.ref M.o, .int p0])).length) Slot.unset).toArray = ls at hl ⊢
  have hl : lv_has ls 4 [(0, .ref M.o), (1, .int p0)] := hl
  refine qabs (fun Q hQ => ?_)
  have hB_214 : ∀ (rec_66 : Int32 → Int32 → MS → Option (MS)) (hr_66 : ∀ (y_1 : Int32) (y_2 : Int32) (S : MS) (H : Heap) (locs : List Loc) (ls : Array Slot), rec_66 y_1 y_2 S = some S' → va_P (dC, dI) classes (wM M S) H → va_D A (wM M S) → va_S A s.heap H locs → lv_has ls 4 [(0, .ref M.o), (1, .int y_1), (2, .int y_2)] → W p l e ({ frames := 10, cells := 0, slots := 0, locals := 295 }) s m ([.ref M.o, .int p0] : List Value).toArray below meth c H locs 0 0 Q (F0 m 66 ls [])), ∀ (y_1 : Int32) (y_2 : Int32) (S : MS) (H : Heap) (locs : List Loc) (ls : Array Slot), f_Mo_scan_214 K rec_66 y_1 y_2 S = some S' → va_P (dC, dI) classes (wM M S) H → va_D A (wM M S) → va_S A s.heap H locs → lv_has ls 4 [(0, .ref M.o), (1, .int y_1), (2, .int y_2)] → W p l e ({ frames := 10, cells := 0, slots := 0, locals := 295 }) s m ([.ref M.o, .int p0] : List Value).toArray below meth c H locs 0 0 Q (F0 m 214 ls []) := by
    intro rec_66 hr_66 y_1 y_2 S H locs ls h hP hD hS hl
    rw [f_Mo_scan_214] at h
    obtain ⟨x_37, ex_37, h⟩ := lf_lX h
    refine lv_iinc (v := x_37) (lv' := [(2, .int x_37), (0, .ref M.o), (1, .int y_1)]) hx hb d_Mo_scan_214 hl (k := 2) rfl (by rw [ex_37]; rfl) (by decide) rfl (fun ls hl => ?_)
    refine lv_goto (tgt := 66) hx hb d_Mo_scan_217 (by decide) ?_
    exact hr_66 y_1 x_37 S _ _ _ h hP hD hS (lv_sub hl [1, 2, 0] rfl)
  have hB_131 : ∀ (rec_66 : Int32 → Int32 → MS → Option (MS)) (hr_66 : ∀ (y_1 : Int32) (y_2 : Int32) (S : MS) (H : Heap) (locs : List Loc) (ls : Array Slot), rec_66 y_1 y_2 S = some S' → va_P (dC, dI) classes (wM M S) H → va_D A (wM M S) → va_S A s.heap H locs → lv_has ls 4 [(0, .ref M.o), (1, .int y_1), (2, .int y_2)] → W p l e ({ frames := 10, cells := 0, slots := 0, locals := 295 }) s m ([.ref M.o, .int p0] : List Value).toArray below meth c H locs 0 0 Q (F0 m 66 ls [])), ∀ (y_1 : Int32) (y_2 : Int32) (z_1 : Int32) (S : MS) (H : Heap) (locs : List Loc) (ls : Array Slot), f_Mo_scan_131 K rec_66 y_1 y_2 z_1 S = some S' → va_P (dC, dI) classes (wM M S) H → va_D A (wM M S) → va_S A s.heap H locs → lv_has ls 4 [(0, .ref M.o), (1, .int y_1), (2, .int y_2)] → W p l e ({ frames := 10, cells := 0, slots := 0, locals := 295 }) s m ([.ref M.o, .int p0] : List Value).toArray below meth c H locs 0 0 Q (F0 m 131 ls [.int z_1, .ref M.o]) := by
    intro rec_66 hr_66 y_1 y_2 z_1 S H locs ls h hP hD hS hl
    rw [f_Mo_scan_131] at h
    refine va_put (D := (dC, dI)) (ci := 12) (v := .int z_1) (ty := .int) (C := R_Mo) (T := F_Mo) (N := 66) hx hb hts (fun w h => u_Mq_Mo w (i_Mo w h)) t_Mo t_Mo_ok n_Mo hown hK hP hD hS 0 rfl rfl 20 (by decide) (hts _ (u_Mq_Mo _ k_Mo_27)) (fun _ h9 => h9) rfl (by decide +kernel) rfl rfl (Nat.le_of_ble_eq_true rfl) d_Mo_scan_131 (fun H locs hP hD hS => ?_)
    obtain ⟨S_35, eS_35, h⟩ := lf_lX h
    have hP := lx_newP eS_35 hP
    have hD := lx_newD eS_35 hD
    refine lv_goto (tgt := 214) hx hb d_Mo_scan_134 (by decide) ?_
    exact hB_214 _ hr_66 y_1 y_2 S_35 _ _ _ h hP hD hS (lv_sub hl [0, 1, 2] rfl)
  have hB_161 : ∀ (rec_66 : Int32 → Int32 → MS → Option (MS)) (hr_66 : ∀ (y_1 : Int32) (y_2 : Int32) (S : MS) (H : Heap) (locs : List Loc) (ls : Array Slot), rec_66 y_1 y_2 S = some S' → va_P (dC, dI) classes (wM M S) H → va_D A (wM M S) → va_S A s.heap H locs → lv_has ls 4 [(0, .ref M.o), (1, .int y_1), (2, .int y_2)] → W p l e ({ frames := 10, cells := 0, slots := 0, locals := 295 }) s m ([.ref M.o, .int p0] : List Value).toArray below meth c H locs 0 0 Q (F0 m 66 ls [])), ∀ (y_1 : Int32) (y_2 : Int32) (z_1 : Int32) (S : MS) (H : Heap) (locs : List Loc) (ls : Array Slot), f_Mo_scan_161 K rec_66 y_1 y_2 z_1 S = some S' → va_P (dC, dI) classes (wM M S) H → va_D A (wM M S) → va_S A s.heap H locs → lv_has ls 4 [(0, .ref M.o), (1, .int y_1), (2, .int y_2)] → W p l e ({ frames := 10, cells := 0, slots := 0, locals := 295 }) s m ([.ref M.o, .int p0] : List Value).toArray below meth c H locs 0 0 Q (F0 m 161 ls [.int z_1, .ref M.o]) := by
    intro rec_66 hr_66 y_1 y_2 z_1 S H locs ls h hP hD hS hl
    rw [f_Mo_scan_161] at h
    refine va_put (D := (dC, dI)) (ci := 12) (v := .int z_1) (ty := .int) (C := R_Mo) (T := F_Mo) (N := 66) hx hb hts (fun w h => u_Mq_Mo w (i_Mo w h)) t_Mo t_Mo_ok n_Mo hown hK hP hD hS 0 rfl rfl 20 (by decide) (hts _ (u_Mq_Mo _ k_Mo_27)) (fun _ h9 => h9) rfl (by decide +kernel) rfl rfl (Nat.le_of_ble_eq_true rfl) d_Mo_scan_161 (fun H locs hP hD hS => ?_)
    obtain ⟨S_39, eS_39, h⟩ := lf_lX h
    have hP := lx_newP eS_39 hP
    have hD := lx_newD eS_39 hD
    refine lv_goto (tgt := 214) hx hb d_Mo_scan_164 (by decide) ?_
    exact hB_214 _ hr_66 y_1 y_2 S_39 _ _ _ h hP hD hS (lv_sub hl [0, 1, 2] rfl)
  have hB_197 : ∀ (rec_66 : Int32 → Int32 → MS → Option (MS)) (hr_66 : ∀ (y_1 : Int32) (y_2 : Int32) (S : MS) (H : Heap) (locs : List Loc) (ls : Array Slot), rec_66 y_1 y_2 S = some S' → va_P (dC, dI) classes (wM M S) H → va_D A (wM M S) → va_S A s.heap H locs → lv_has ls 4 [(0, .ref M.o), (1, .int y_1), (2, .int y_2)] → W p l e ({ frames := 10, cells := 0, slots := 0, locals := 295 }) s m ([.ref M.o, .int p0] : List Value).toArray below meth c H locs 0 0 Q (F0 m 66 ls [])), ∀ (y_1 : Int32) (y_2 : Int32) (z_1 : Int32) (S : MS) (H : Heap) (locs : List Loc) (ls : Array Slot), f_Mo_scan_197 K rec_66 y_1 y_2 z_1 S = some S' → va_P (dC, dI) classes (wM M S) H → va_D A (wM M S) → va_S A s.heap H locs → lv_has ls 4 [(0, .ref M.o), (1, .int y_1), (2, .int y_2)] → W p l e ({ frames := 10, cells := 0, slots := 0, locals := 295 }) s m ([.ref M.o, .int p0] : List Value).toArray below meth c H locs 0 0 Q (F0 m 197 ls [.int z_1, .ref M.o]) := by
    intro rec_66 hr_66 y_1 y_2 z_1 S H locs ls h hP hD hS hl
    rw [f_Mo_scan_197] at h
    refine va_put (D := (dC, dI)) (ci := 12) (v := .int z_1) (ty := .int) (C := R_Mo) (T := F_Mo) (N := 66) hx hb hts (fun w h => u_Mq_Mo w (i_Mo w h)) t_Mo t_Mo_ok n_Mo hown hK hP hD hS 0 rfl rfl 20 (by decide) (hts _ (u_Mq_Mo _ k_Mo_27)) (fun _ h9 => h9) rfl (by decide +kernel) rfl rfl (Nat.le_of_ble_eq_true rfl) d_Mo_scan_197 (fun H locs hP hD hS => ?_)
    obtain ⟨S_38, eS_38, h⟩ := lf_lX h
    have hP := lx_newP eS_38 hP
    have hD := lx_newD eS_38 hD
    refine lv_goto (tgt := 214) hx hb d_Mo_scan_200 (by decide) ?_
    exact hB_214 _ hr_66 y_1 y_2 S_38 _ _ _ h hP hD hS (lv_sub hl [0, 1, 2] rfl)
  have hB_137 : ∀ (rec_66 : Int32 → Int32 → MS → Option (MS)) (hr_66 : ∀ (y_1 : Int32) (y_2 : Int32) (S : MS) (H : Heap) (locs : List Loc) (ls : Array Slot), rec_66 y_1 y_2 S = some S' → va_P (dC, dI) classes (wM M S) H → va_D A (wM M S) → va_S A s.heap H locs → lv_has ls 4 [(0, .ref M.o), (1, .int y_1), (2, .int y_2)] → W p l e ({ frames := 10, cells := 0, slots := 0, locals := 295 }) s m ([.ref M.o, .int p0] : List Value).toArray below meth c H locs 0 0 Q (F0 m 66 ls [])), ∀ (y_1 : Int32) (y_2 : Int32) (y_3 : Int32) (S : MS) (H : Heap) (locs : List Loc) (ls : Array Slot), f_Mo_scan_137 K rec_66 y_1 y_2 y_3 S = some S' → va_P (dC, dI) classes (wM M S) H → va_D A (wM M S) → va_S A s.heap H locs → lv_has ls 4 [(0, .ref M.o), (1, .int y_1), (2, .int y_2), (3, .int y_3)] → W p l e ({ frames := 10, cells := 0, slots := 0, locals := 295 }) s m ([.ref M.o, .int p0] : List Value).toArray below meth c H locs 0 0 Q (F0 m 137 ls []) := by
    intro rec_66 hr_66 y_1 y_2 y_3 S H locs ls h hP hD hS hl
    rw [f_Mo_scan_137] at h
    refine lv_aload_n hx hb d_Mo_scan_137 rfl (lv_at hl 0 rfl) ?_
    refine lv_iload_n hx hb d_Mo_scan_138 rfl (lv_at hl 3 rfl) ?_
    obtain ⟨r_26, S_26, hc_26, h⟩ := lf_cE h
    have hFc := lx_free hD hS hA
    refine va_calli (va_runV (As := [.int y_3]) (rest := []) ⟨hx, hb, hml, hown, hts⟩ (l_Mo_one l dC dI X _ hc_26) (cwV 1 hts (gwV good_Mq (u_Mq_Mo _ k_Mo_94) (u_Mq_Mo _ k_Mo_95) (u_Mq_Mo _ k_Mo_475) (u_Mq_Mo _ k_Mo_0) (wcs (u_Mq_Mo _ k_Mo_96) (fun _ h => h))) rfl rfl rfl (by decide +kernel) ⟨Nat.le_of_ble_eq_true rfl, Nat.le_of_ble_eq_true rfl⟩) (pv_ofE (X.same _) (fun U z1 z2 => X.mono _ _ U hFc (hEw _ _ hS U z1 z2)) hP hK hD (va_recv hK hP (ci := 12) (q0 := 0) rfl rfl)) rfl rfl hl.1 rfl (lv_room (Nat.le_of_ble_eq_true rfl)) d_Mo_scan_139 ⟨by decide, by decide⟩) hS (fun q _ h => hFc q h) hFc (fun r_ u t H locs ht hvm hw hB hz1 hk1 hS => ?_)
    rw [hw]
    obtain ⟨hP, -, hD⟩ := hB
    rw [ht] at hP
    have hD := lx_dj hD hFc
    refine lv_sipush (v := 229) hx hb d_Mo_scan_142 (by decide) ?_
    refine lv_icmp_ne (tgt := 167) hx hb d_Mo_scan_145 (by decide) (fun c_27 => ?_) (fun c_27 => ?_)
    · have h := lf_f h c_27
      refine lv_aload_n hx hb d_Mo_scan_167 rfl (lv_at hl 0 rfl) ?_
      refine lv_iload_n hx hb d_Mo_scan_168 rfl (lv_at hl 3 rfl) ?_
      refine lv_bipush (v := 11) hx hb d_Mo_scan_169 (by decide) ?_
      refine lv_iadd hx hb d_Mo_scan_171 ?_
      obtain ⟨r_28, S_28, hc_28, h⟩ := lf_cE h
      have hFc := lx_free hD hS hA
      refine va_calli (va_runV (As := [.int (y_3 + 11)]) (rest := []) ⟨hx, hb, hml, hown, hts⟩ (l_Mo_one l dC dI X _ hc_28) (cwV 1 hts (gwV good_Mq (u_Mq_Mo _ k_Mo_94) (u_Mq_Mo _ k_Mo_95) (u_Mq_Mo _ k_Mo_475) (u_Mq_Mo _ k_Mo_0) (wcs (u_Mq_Mo _ k_Mo_96) (fun _ h => h))) rfl rfl rfl (by decide +kernel) ⟨Nat.le_of_ble_eq_true rfl, Nat.le_of_ble_eq_true rfl⟩) (pv_ofE (X.same _) (fun U z1 z2 => X.mono _ _ U hFc (hEw _ _ hS U z1 z2)) hP hK hD (va_recv hK hP (ci := 12) (q0 := 0) rfl rfl)) rfl rfl hl.1 rfl (lv_room (Nat.le_of_ble_eq_true rfl)) d_Mo_scan_172 ⟨by decide, by decide⟩) hS (fun q _ h => hFc q h) hFc (fun r_ u t H locs ht hvm hw hB hz1 hk1 hS => ?_)
      rw [hw]
      obtain ⟨hP, -, hD⟩ := hB
      rw [ht] at hP
      have hD := lx_dj hD hFc
      refine lv_bipush (v := 63) hx hb d_Mo_scan_175 (by decide) ?_
      refine lv_iand hx hb d_Mo_scan_177 ?_
      refine lv_bipush (v := 15) hx hb d_Mo_scan_178 (by decide) ?_
      refine lv_icmp_ne (tgt := 203) hx hb d_Mo_scan_180 (by decide) (fun c_29 => ?_) (fun c_29 => ?_)
      · have h := lf_f h c_29
        refine lv_aload_n hx hb d_Mo_scan_203 rfl (lv_at hl 0 rfl) ?_
        refine lv_aload_n hx hb d_Mo_scan_204 rfl (lv_at hl 0 rfl) ?_
        refine lv_iload_n hx hb d_Mo_scan_205 rfl (lv_at hl 3 rfl) ?_
        refine lv_iload_n hx hb d_Mo_scan_206 rfl (lv_at hl 1 rfl) ?_
        refine lv_iload_n hx hb d_Mo_scan_207 rfl (lv_at hl 2 rfl) ?_
        obtain ⟨r_30, S_30, hc_30, h⟩ := lf_cE h
        have hFc := lx_free hD hS hA
        refine va_calli (va_runV (As := [.int y_3, .int y_1, .int y_2]) (rest := [.ref M.o]) ⟨hx, hb, hml, hown, hts⟩ (l_Mo_adm l dC dI X _ hc_30) (cwV 3 hts (gwV good_Mq (k_Mq_0) (k_Mq_1) (k_Mq_3) (u_Mq_Mo _ k_Mo_0) (wcs (k_Mq_2) (fun _ h => h))) rfl rfl rfl (by decide +kernel) ⟨Nat.le_of_ble_eq_true rfl, Nat.le_of_ble_eq_true rfl⟩) (pv_ofE (X.same _) (fun U z1 z2 => X.mono _ _ U hFc (hEw _ _ hS U z1 z2)) hP hK hD (va_recv hK hP (ci := 12) (q0 := 0) rfl rfl)) rfl rfl hl.1 rfl (lv_room (Nat.le_of_ble_eq_true rfl)) d_Mo_scan_208 ⟨by decide, by decide⟩) hS (fun q _ h => hFc q h) hFc (fun r_ u t H locs ht hvm hw hB hz1 hk1 hS => ?_)
        rw [hw]
        obtain ⟨hP, -, hD⟩ := hB
        rw [ht] at hP
        have hD := lx_dj hD hFc
        refine va_put (D := (dC, dI)) (ci := 12) (v := .int r_30) (ty := .int) (C := R_Mo) (T := F_Mo) (N := 66) hx hb hts (fun w h => u_Mq_Mo w (i_Mo w h)) t_Mo t_Mo_ok n_Mo hown hK hP hD hS 0 rfl rfl 20 (by decide) (hts _ (u_Mq_Mo _ k_Mo_27)) (fun _ h9 => h9) rfl (by decide +kernel) rfl rfl (Nat.le_of_ble_eq_true rfl) d_Mo_scan_211 (fun H locs hP hD hS => ?_)
        obtain ⟨S_31, eS_31, h⟩ := lf_lX h
        have hP := lx_newP eS_31 hP
        have hD := lx_newD eS_31 hD
        exact hB_214 _ hr_66 y_1 y_2 S_31 _ _ _ h hP hD hS (lv_sub hl [0, 1, 2] rfl)
      · have h := lf_t h c_29
        refine lv_aload_n hx hb d_Mo_scan_183 rfl (lv_at hl 0 rfl) ?_
        refine lv_aload_n hx hb d_Mo_scan_184 rfl (lv_at hl 0 rfl) ?_
        refine lv_iload_n hx hb d_Mo_scan_185 rfl (lv_at hl 3 rfl) ?_
        obtain ⟨r_32, S_32, hc_32, h⟩ := lf_cE h
        have hFc := lx_free hD hS hA
        refine va_calli (va_runV (As := [.int y_3]) (rest := [.ref M.o]) ⟨hx, hb, hml, hown, hts⟩ (l_Mo_part l dC dI X _ hc_32) (cwV 1 hts (gwV good_Mq (u_Mq_Mo _ k_Mo_142) (u_Mq_Mo _ k_Mo_143) (u_Mq_Mo _ k_Mo_496) (u_Mq_Mo _ k_Mo_0) (wcs (u_Mq_Mo _ k_Mo_144) (fun _ h => h))) rfl rfl rfl (by decide +kernel) ⟨Nat.le_of_ble_eq_true rfl, Nat.le_of_ble_eq_true rfl⟩) (pv_ofE (X.same _) (fun U z1 z2 => X.mono _ _ U hFc (hEw _ _ hS U z1 z2)) hP hK hD (va_recv hK hP (ci := 12) (q0 := 0) rfl rfl)) rfl rfl hl.1 rfl (lv_room (Nat.le_of_ble_eq_true rfl)) d_Mo_scan_186 ⟨by decide, by decide⟩) hS (fun q _ h => hFc q h) hFc (fun r_ u t H locs ht hvm hw hB hz1 hk1 hS => ?_)
        rw [hw]
        obtain ⟨hP, -, hD⟩ := hB
        rw [ht] at hP
        have hD := lx_dj hD hFc
        refine lv_if_eq (tgt := 196) hx hb d_Mo_scan_189 (by decide) (fun c_33 => ?_) (fun c_33 => ?_)
        · have h := lf_t h c_33
          refine lv_iconst (v := 4) hx hb d_Mo_scan_196 (by decide) ?_
          exact hB_197 _ hr_66 y_1 y_2 4 S_32 _ _ _ h hP hD hS (lv_sub hl [0, 1, 2] rfl)
        · have h := lf_f h c_33
          refine lv_iconst (v := 0) hx hb d_Mo_scan_192 (by decide) ?_
          refine lv_goto (tgt := 197) hx hb d_Mo_scan_193 (by decide) ?_
          exact hB_197 _ hr_66 y_1 y_2 0 S_32 _ _ _ h hP hD hS (lv_sub hl [0, 1, 2] rfl)
    · have h := lf_t h c_27
      refine lv_aload_n hx hb d_Mo_scan_148 rfl (lv_at hl 0 rfl) ?_
      refine lv_aload_n hx hb d_Mo_scan_149 rfl (lv_at hl 0 rfl) ?_
      refine va_get (D := (dC, dI)) (ci := 12) (v := .int S_26.v_met) (C := R_Mo) (T := F_Mo) (N := 66) hx hb hts (fun w h => u_Mq_Mo w (i_Mo w h)) hown hK hP 0 rfl rfl 40 (by decide) (hts _ (u_Mq_Mo _ k_Mo_47)) (fun _ h9 => h9) rfl d_Mo_scan_150 ?_
      refine lv_if_le (tgt := 160) hx hb d_Mo_scan_153 (by decide) (fun c_34 => ?_) (fun c_34 => ?_)
      · have h := lf_t h c_34
        refine lv_iconst (v := 0) hx hb d_Mo_scan_160 (by decide) ?_
        exact hB_161 _ hr_66 y_1 y_2 0 S_26 _ _ _ h hP hD hS (lv_sub hl [0, 1, 2] rfl)
      · have h := lf_f h c_34
        refine lv_iconst (v := 4) hx hb d_Mo_scan_156 (by decide) ?_
        refine lv_goto (tgt := 161) hx hb d_Mo_scan_157 (by decide) ?_
        exact hB_161 _ hr_66 y_1 y_2 4 S_26 _ _ _ h hP hD hS (lv_sub hl [0, 1, 2] rfl)
  have hB_243 : ∀ (S : MS) (H : Heap) (locs : List Loc) (ls : Array Slot), f_Mo_scan_243 K S = some S' → va_P (dC, dI) classes (wM M S) H → va_D A (wM M S) → va_S A s.heap H locs → lv_has ls 4 [(0, .ref M.o)] → W p l e ({ frames := 10, cells := 0, slots := 0, locals := 295 }) s m ([.ref M.o, .int p0] : List Value).toArray below meth c H locs 0 0 Q (F0 m 243 ls []) := by
    intro S H locs ls h hP hD hS hl
    rw [f_Mo_scan_243] at h
    refine lv_aload_n hx hb d_Mo_scan_243 rfl (lv_at hl 0 rfl) ?_
    refine lv_iconst (v := 4) hx hb d_Mo_scan_244 (by decide) ?_
    refine va_put (D := (dC, dI)) (ci := 12) (v := .int 4) (ty := .int) (C := R_Mo) (T := F_Mo) (N := 66) hx hb hts (fun w h => u_Mq_Mo w (i_Mo w h)) t_Mo t_Mo_ok n_Mo hown hK hP hD hS 0 rfl rfl 20 (by decide) (hts _ (u_Mq_Mo _ k_Mo_27)) (fun _ h9 => h9) rfl (by decide +kernel) rfl rfl (Nat.le_of_ble_eq_true rfl) d_Mo_scan_245 (fun H locs hP hD hS => ?_)
    obtain ⟨S_36, eS_36, h⟩ := lf_lX h
    have hP := lx_newP eS_36 hP
    have hD := lx_newD eS_36 hD
    rw [hQ]
    have e2 : S_36 = S' := Option.some.inj h
    have hP := lx_newP e2.symm hP
    have hD := lx_newD e2.symm hD
    exact W.vret hx hb hr (fun t ht hW => ⟨⟨(), rfl, trivial, by rw [ht]; exact hP, va_K.moved hW.alike hK, hD⟩, hS.F ht⟩) hS.2.2 d_Mo_scan_248
  have hB_220 : ∀ (y_1 : Int32) (y_2 : Int32) (S : MS) (H : Heap) (locs : List Loc) (ls : Array Slot), f_Mo_scan_220 K y_1 y_2 S = some S' → va_P (dC, dI) classes (wM M S) H → va_D A (wM M S) → va_S A s.heap H locs → lv_has ls 4 [(0, .ref M.o), (1, .int y_1), (2, .int y_2)] → W p l e ({ frames := 10, cells := 0, slots := 0, locals := 295 }) s m ([.ref M.o, .int p0] : List Value).toArray below meth c H locs 0 0 Q (F0 m 220 ls []) := by
    intro y_1 y_2 S H locs ls h hP hD hS hl
    rw [f_Mo_scan_220] at h
    refine lv_aload_n hx hb d_Mo_scan_220 rfl (lv_at hl 0 rfl) ?_
    refine va_get (D := (dC, dI)) (ci := 12) (v := .int S.v_fault) (C := R_Mo) (T := F_Mo) (N := 66) hx hb hts (fun w h => u_Mq_Mo w (i_Mo w h)) hown hK hP 0 rfl rfl 20 (by decide) (hts _ (u_Mq_Mo _ k_Mo_27)) (fun _ h9 => h9) rfl d_Mo_scan_221 ?_
    refine lv_if_ne (tgt := 248) hx hb d_Mo_scan_224 (by decide) (fun c_22 => ?_) (fun c_22 => ?_)
    · have h := lf_f h c_22
      rw [hQ]
      have e2 : S = S' := Option.some.inj h
      have hP := lx_newP e2.symm hP
      have hD := lx_newD e2.symm hD
      exact W.vret hx hb hr (fun t ht hW => ⟨⟨(), rfl, trivial, by rw [ht]; exact hP, va_K.moved hW.alike hK, hD⟩, hS.F ht⟩) hS.2.2 d_Mo_scan_248
    · have h := lf_t h c_22
      refine lv_aload_n hx hb d_Mo_scan_227 rfl (lv_at hl 0 rfl) ?_
      refine va_get (D := (dC, dI)) (ci := 12) (v := .int S.v_met) (C := R_Mo) (T := F_Mo) (N := 66) hx hb hts (fun w h => u_Mq_Mo w (i_Mo w h)) hown hK hP 0 rfl rfl 40 (by decide) (hts _ (u_Mq_Mo _ k_Mo_47)) (fun _ h9 => h9) rfl d_Mo_scan_228 ?_
      refine lv_if_gt (tgt := 243) hx hb d_Mo_scan_231 (by decide) (fun c_23 => ?_) (fun c_23 => ?_)
      · have h := lf_t h c_23
        exact hB_243 S _ _ _ h hP hD hS (lv_sub hl [0] rfl)
      · have h := lf_f h c_23
        refine lv_iload_n hx hb d_Mo_scan_234 rfl (lv_at hl 1 rfl) ?_
        refine lv_if_le (tgt := 248) hx hb d_Mo_scan_235 (by decide) (fun c_24 => ?_) (fun c_24 => ?_)
        · have h := lf_t h c_24
          rw [hQ]
          have e2 : S = S' := Option.some.inj h
          have hP := lx_newP e2.symm hP
          have hD := lx_newD e2.symm hD
          exact W.vret hx hb hr (fun t ht hW => ⟨⟨(), rfl, trivial, by rw [ht]; exact hP, va_K.moved hW.alike hK, hD⟩, hS.F ht⟩) hS.2.2 d_Mo_scan_248
        · have h := lf_f h c_24
          refine lv_iload_n hx hb d_Mo_scan_238 rfl (lv_at hl 2 rfl) ?_
          refine lv_iconst (v := 2) hx hb d_Mo_scan_239 (by decide) ?_
          refine lv_icmp_ge (tgt := 248) hx hb d_Mo_scan_240 (by decide) (fun c_25 => ?_) (fun c_25 => ?_)
          · have h := lf_t h c_25
            rw [hQ]
            have e2 : S = S' := Option.some.inj h
            have hP := lx_newP e2.symm hP
            have hD := lx_newD e2.symm hD
            exact W.vret hx hb hr (fun t ht hW => ⟨⟨(), rfl, trivial, by rw [ht]; exact hP, va_K.moved hW.alike hK, hD⟩, hS.F ht⟩) hS.2.2 d_Mo_scan_248
          · have h := lf_f h c_25
            exact hB_243 S _ _ _ h hP hD hS (lv_sub hl [0] rfl)
  have hB_66 : ∀ (k : Nat), ∀ (y_1 : Int32) (y_2 : Int32) (S : MS) (H : Heap) (locs : List Loc) (ls : Array Slot), f_Mo_scan_66 K k y_1 y_2 S = some S' → va_P (dC, dI) classes (wM M S) H → va_D A (wM M S) → va_S A s.heap H locs → lv_has ls 4 [(0, .ref M.o), (1, .int y_1), (2, .int y_2)] → W p l e ({ frames := 10, cells := 0, slots := 0, locals := 295 }) s m ([.ref M.o, .int p0] : List Value).toArray below meth c H locs 0 0 Q (F0 m 66 ls []) := by
    intro k
    induction k with
    | zero => intro y_1 y_2 S H locs ls h; exact lf_no h
    | succ k hr_66 =>
      intro y_1 y_2 S H locs ls h hP hD hS hl
      rw [f_Mo_scan_66] at h
      refine lv_iload_n hx hb d_Mo_scan_66 rfl (lv_at hl 2 rfl) ?_
      refine lv_aload_n hx hb d_Mo_scan_67 rfl (lv_at hl 0 rfl) ?_
      refine va_get (D := (dC, dI)) (ci := 12) (v := .int S.v_folders) (C := R_Mo) (T := F_Mo) (N := 66) hx hb hts (fun w h => u_Mq_Mo w (i_Mo w h)) hown hK hP 0 rfl rfl 36 (by decide) (hts _ (u_Mq_Mo _ k_Mo_43)) (fun _ h9 => h9) rfl d_Mo_scan_68 ?_
      refine lv_bipush (v := 16) hx hb d_Mo_scan_71 (by decide) ?_
      refine lv_imul hx hb d_Mo_scan_73 ?_
      refine lv_aload_n hx hb d_Mo_scan_74 rfl (lv_at hl 0 rfl) ?_
      refine va_get (D := (dC, dI)) (ci := 12) (v := .int S.v_c) (C := R_Mo) (T := F_Mo) (N := 66) hx hb hts (fun w h => u_Mq_Mo w (i_Mo w h)) hown hK hP 0 rfl rfl 11 (by decide) (hts _ (u_Mq_Mo _ k_Mo_18)) (fun _ h9 => h9) rfl d_Mo_scan_75 ?_
      refine lv_imul hx hb d_Mo_scan_78 ?_
      refine lv_icmp_ge (tgt := 220) hx hb d_Mo_scan_79 (by decide) (fun c_13 => ?_) (fun c_13 => ?_)
      · have h := lf_t h c_13
        exact hB_220 y_1 y_2 S _ _ _ h hP hD hS (lv_sub hl [0, 1, 2] rfl)
      · have h := lf_f h c_13
        refine lv_aload_n hx hb d_Mo_scan_82 rfl (lv_at hl 0 rfl) ?_
        refine va_get (D := (dC, dI)) (ci := 12) (v := .int S.v_fault) (C := R_Mo) (T := F_Mo) (N := 66) hx hb hts (fun w h => u_Mq_Mo w (i_Mo w h)) hown hK hP 0 rfl rfl 20 (by decide) (hts _ (u_Mq_Mo _ k_Mo_27)) (fun _ h9 => h9) rfl d_Mo_scan_83 ?_
        refine lv_if_ne (tgt := 220) hx hb d_Mo_scan_86 (by decide) (fun c_14 => ?_) (fun c_14 => ?_)
        · have h := lf_f h c_14
          exact hB_220 y_1 y_2 S _ _ _ h hP hD hS (lv_sub hl [0, 1, 2] rfl)
        · have h := lf_t h c_14
          refine lv_aload_n hx hb d_Mo_scan_89 rfl (lv_at hl 0 rfl) ?_
          refine lv_iload_n hx hb d_Mo_scan_90 rfl (lv_at hl 2 rfl) ?_
          obtain ⟨r_15, S_15, hc_15, h⟩ := lf_cE h
          have hFc := lx_free hD hS hA
          refine va_calli (va_runV (As := [.int y_2]) (rest := []) ⟨hx, hb, hml, hown, hts⟩ (l_Mo_slotAt l dC dI X _ hc_15) (cwV 1 hts (gwV good_Mq (u_Mq_Mo _ k_Mo_133) (u_Mq_Mo _ k_Mo_134) (u_Mq_Mo _ k_Mo_491) (u_Mq_Mo _ k_Mo_0) (wcs (u_Mq_Mo _ k_Mo_135) (fun _ h => h))) rfl rfl rfl (by decide +kernel) ⟨Nat.le_of_ble_eq_true rfl, Nat.le_of_ble_eq_true rfl⟩) (pv_ofE (X.same _) (fun U z1 z2 => X.mono _ _ U hFc (hEw _ _ hS U z1 z2)) hP hK hD (va_recv hK hP (ci := 12) (q0 := 0) rfl rfl)) rfl rfl hl.1 rfl (lv_room (Nat.le_of_ble_eq_true rfl)) d_Mo_scan_91 ⟨by decide, by decide⟩) hS (fun q _ h => hFc q h) hFc (fun r_ u t H locs ht hvm hw hB hz1 hk1 hS => ?_)
          rw [hw]
          obtain ⟨hP, -, hD⟩ := hB
          rw [ht] at hP
          have hD := lx_dj hD hFc
          refine lv_istore_n (lv' := [(3, .int r_15), (0, .ref M.o), (1, .int y_1), (2, .int y_2)]) hx hb d_Mo_scan_94 rfl hl (by decide) rfl (fun ls hl => ?_)
          refine lv_aload_n hx hb d_Mo_scan_95 rfl (lv_at hl 1 rfl) ?_
          refine lv_iload_n hx hb d_Mo_scan_96 rfl (lv_at hl 0 rfl) ?_
          obtain ⟨r_16, S_16, hc_16, h⟩ := lf_cE h
          have hFc := lx_free hD hS hA
          refine va_calli (va_runV (As := [.int r_15]) (rest := []) ⟨hx, hb, hml, hown, hts⟩ (l_Mo_one l dC dI X _ hc_16) (cwV 1 hts (gwV good_Mq (u_Mq_Mo _ k_Mo_94) (u_Mq_Mo _ k_Mo_95) (u_Mq_Mo _ k_Mo_475) (u_Mq_Mo _ k_Mo_0) (wcs (u_Mq_Mo _ k_Mo_96) (fun _ h => h))) rfl rfl rfl (by decide +kernel) ⟨Nat.le_of_ble_eq_true rfl, Nat.le_of_ble_eq_true rfl⟩) (pv_ofE (X.same _) (fun U z1 z2 => X.mono _ _ U hFc (hEw _ _ hS U z1 z2)) hP hK hD (va_recv hK hP (ci := 12) (q0 := 0) rfl rfl)) rfl rfl hl.1 rfl (lv_room (Nat.le_of_ble_eq_true rfl)) d_Mo_scan_97 ⟨by decide, by decide⟩) hS (fun q _ h => hFc q h) hFc (fun r_ u t H locs ht hvm hw hB hz1 hk1 hS => ?_)
          rw [hw]
          obtain ⟨hP, -, hD⟩ := hB
          rw [ht] at hP
          have hD := lx_dj hD hFc
          refine lv_if_ne (tgt := 106) hx hb d_Mo_scan_100 (by decide) (fun c_17 => ?_) (fun c_17 => ?_)
          · have h := lf_f h c_17
            refine lv_iload_n hx hb d_Mo_scan_106 rfl (lv_at hl 2 rfl) ?_
            refine lv_if_le (tgt := 137) hx hb d_Mo_scan_107 (by decide) (fun c_18 => ?_) (fun c_18 => ?_)
            · have h := lf_t h c_18
              exact hB_137 _ hr_66 y_1 y_2 r_15 S_16 _ _ _ h hP hD hS (lv_sub hl [1, 2, 3, 0] rfl)
            · have h := lf_f h c_18
              refine lv_iload_n hx hb d_Mo_scan_110 rfl (lv_at hl 3 rfl) ?_
              refine lv_iconst (v := 2) hx hb d_Mo_scan_111 (by decide) ?_
              refine lv_icmp_ge (tgt := 137) hx hb d_Mo_scan_112 (by decide) (fun c_19 => ?_) (fun c_19 => ?_)
              · have h := lf_t h c_19
                exact hB_137 _ hr_66 y_1 y_2 r_15 S_16 _ _ _ h hP hD hS (lv_sub hl [1, 2, 3, 0] rfl)
              · have h := lf_f h c_19
                refine lv_aload_n hx hb d_Mo_scan_115 rfl (lv_at hl 1 rfl) ?_
                refine lv_aload_n hx hb d_Mo_scan_116 rfl (lv_at hl 1 rfl) ?_
                refine lv_iload_n hx hb d_Mo_scan_117 rfl (lv_at hl 0 rfl) ?_
                refine lv_iload_n hx hb d_Mo_scan_118 rfl (lv_at hl 2 rfl) ?_
                refine lv_iload_n hx hb d_Mo_scan_119 rfl (lv_at hl 3 rfl) ?_
                obtain ⟨r_20, S_20, hc_20, h⟩ := lf_cE h
                have hFc := lx_free hD hS hA
                refine va_calli (va_runV (As := [.int r_15, .int y_1, .int y_2]) (rest := [.ref M.o]) ⟨hx, hb, hml, hown, hts⟩ (l_Mo_dots l dC dI X _ hc_20) (cwV 3 hts (gwV good_Mq (u_Mq_Mo _ k_Mo_139) (u_Mq_Mo _ k_Mo_140) (u_Mq_Mo _ k_Mo_495) (u_Mq_Mo _ k_Mo_0) (wcs (u_Mq_Mo _ k_Mo_141) (fun _ h => h))) rfl rfl rfl (by decide +kernel) ⟨Nat.le_of_ble_eq_true rfl, Nat.le_of_ble_eq_true rfl⟩) (pv_ofE (X.same _) (fun U z1 z2 => X.mono _ _ U hFc (hEw _ _ hS U z1 z2)) hP hK hD (va_recv hK hP (ci := 12) (q0 := 0) rfl rfl)) rfl rfl hl.1 rfl (lv_room (Nat.le_of_ble_eq_true rfl)) d_Mo_scan_120 ⟨by decide, by decide⟩) hS (fun q _ h => hFc q h) hFc (fun r_ u t H locs ht hvm hw hB hz1 hk1 hS => ?_)
                rw [hw]
                obtain ⟨hP, -, hD⟩ := hB
                rw [ht] at hP
                have hD := lx_dj hD hFc
                refine lv_if_eq (tgt := 130) hx hb d_Mo_scan_123 (by decide) (fun c_21 => ?_) (fun c_21 => ?_)
                · have h := lf_t h c_21
                  refine lv_iconst (v := 4) hx hb d_Mo_scan_130 (by decide) ?_
                  exact hB_131 _ hr_66 y_1 y_2 4 S_20 _ _ _ h hP hD hS (lv_sub hl [1, 2, 3] rfl)
                · have h := lf_f h c_21
                  refine lv_iconst (v := 0) hx hb d_Mo_scan_126 (by decide) ?_
                  refine lv_goto (tgt := 131) hx hb d_Mo_scan_127 (by decide) ?_
                  exact hB_131 _ hr_66 y_1 y_2 0 S_20 _ _ _ h hP hD hS (lv_sub hl [1, 2, 3] rfl)
          · have h := lf_t h c_17
            refine lv_goto (tgt := 220) hx hb d_Mo_scan_103 (by decide) ?_
            exact hB_220 y_1 y_2 S_16 _ _ _ h hP hD hS (lv_sub hl [1, 2, 3] rfl)
  have hB_20 : ∀ (k : Nat), ∀ (y_1 : Int32) (y_2 : Int32) (S : MS) (H : Heap) (locs : List Loc) (ls : Array Slot), f_Mo_scan_20 K k y_1 y_2 S = some S' → va_P (dC, dI) classes (wM M S) H → va_D A (wM M S) → va_S A s.heap H locs → lv_has ls 4 [(0, .ref M.o), (1, .int y_1), (2, .int y_2)] → W p l e ({ frames := 10, cells := 0, slots := 0, locals := 295 }) s m ([.ref M.o, .int p0] : List Value).toArray below meth c H locs 0 0 Q (F0 m 20 ls []) := by
    intro k
    induction k with
    | zero => intro y_1 y_2 S H locs ls h; exact lf_no h
    | succ k hr_20 =>
      intro y_1 y_2 S H locs ls h hP hD hS hl
      rw [f_Mo_scan_20] at h
      refine lv_iload_n hx hb d_Mo_scan_20 rfl (lv_at hl 2 rfl) ?_
      refine lv_aload_n hx hb d_Mo_scan_21 rfl (lv_at hl 0 rfl) ?_
      refine va_get (D := (dC, dI)) (ci := 12) (v := .int S.v_links) (C := R_Mo) (T := F_Mo) (N := 66) hx hb hts (fun w h => u_Mq_Mo w (i_Mo w h)) hown hK hP 0 rfl rfl 35 (by decide) (hts _ (u_Mq_Mo _ k_Mo_42)) (fun _ h9 => h9) rfl d_Mo_scan_22 ?_
      refine lv_icmp_ge (tgt := 46) hx hb d_Mo_scan_25 (by decide) (fun c_5 => ?_) (fun c_5 => ?_)
      · have h := lf_t h c_5
        refine lv_aload_n hx hb d_Mo_scan_46 rfl (lv_at hl 0 rfl) ?_
        refine lv_aload_n hx hb d_Mo_scan_47 rfl (lv_at hl 0 rfl) ?_
        refine va_get (D := (dC, dI)) (ci := 12) (v := .int S.v_links) (C := R_Mo) (T := F_Mo) (N := 66) hx hb hts (fun w h => u_Mq_Mo w (i_Mo w h)) hown hK hP 0 rfl rfl 35 (by decide) (hts _ (u_Mq_Mo _ k_Mo_42)) (fun _ h9 => h9) rfl d_Mo_scan_48 ?_
        refine va_put (D := (dC, dI)) (ci := 12) (v := .int S.v_links) (ty := .int) (C := R_Mo) (T := F_Mo) (N := 66) hx hb hts (fun w h => u_Mq_Mo w (i_Mo w h)) t_Mo t_Mo_ok n_Mo hown hK hP hD hS 0 rfl rfl 36 (by decide) (hts _ (u_Mq_Mo _ k_Mo_43)) (fun _ h9 => h9) rfl (by decide +kernel) rfl rfl (Nat.le_of_ble_eq_true rfl) d_Mo_scan_51 (fun H locs hP hD hS => ?_)
        obtain ⟨S_6, eS_6, h⟩ := lf_lX h
        have hP := lx_newP eS_6 hP
        have hD := lx_newD eS_6 hD
        refine lv_aload_n hx hb d_Mo_scan_54 rfl (lv_at hl 0 rfl) ?_
        refine lv_iconst (v := 0) hx hb d_Mo_scan_55 (by decide) ?_
        refine va_put (D := (dC, dI)) (ci := 12) (v := .int 0) (ty := .int) (C := R_Mo) (T := F_Mo) (N := 66) hx hb hts (fun w h => u_Mq_Mo w (i_Mo w h)) t_Mo t_Mo_ok n_Mo hown hK hP hD hS 0 rfl rfl 40 (by decide) (hts _ (u_Mq_Mo _ k_Mo_47)) (fun _ h9 => h9) rfl (by decide +kernel) rfl rfl (Nat.le_of_ble_eq_true rfl) d_Mo_scan_56 (fun H locs hP hD hS => ?_)
        obtain ⟨S_7, eS_7, h⟩ := lf_lX h
        have hP := lx_newP eS_7 hP
        have hD := lx_newD eS_7 hD
        refine lv_aload_n hx hb d_Mo_scan_59 rfl (lv_at hl 0 rfl) ?_
        refine lv_iconst (v := 0) hx hb d_Mo_scan_60 (by decide) ?_
        refine va_put (D := (dC, dI)) (ci := 12) (v := .int 0) (ty := .int) (C := R_Mo) (T := F_Mo) (N := 66) hx hb hts (fun w h => u_Mq_Mo w (i_Mo w h)) t_Mo t_Mo_ok n_Mo hown hK hP hD hS 0 rfl rfl 41 (by decide) (hts _ (u_Mq_Mo _ k_Mo_48)) (fun _ h9 => h9) rfl (by decide +kernel) rfl rfl (Nat.le_of_ble_eq_true rfl) d_Mo_scan_61 (fun H locs hP hD hS => ?_)
        obtain ⟨S_8, eS_8, h⟩ := lf_lX h
        have hP := lx_newP eS_8 hP
        have hD := lx_newD eS_8 hD
        refine lv_iconst (v := 0) hx hb d_Mo_scan_64 (by decide) ?_
        refine lv_istore_n (lv' := [(2, .int 0), (0, .ref M.o), (1, .int y_1)]) hx hb d_Mo_scan_65 rfl hl (by decide) rfl (fun ls hl => ?_)
        exact hB_66 K y_1 0 S_8 _ _ _ h hP hD hS (lv_sub hl [1, 2, 0] rfl)
      · have h := lf_f h c_5
        refine lv_aload_n hx hb d_Mo_scan_28 rfl (lv_at hl 0 rfl) ?_
        refine va_get (D := (dC, dI)) (ci := 12) (v := .ref M.a_folder) (C := R_Mo) (T := F_Mo) (N := 66) hx hb hts (fun w h => u_Mq_Mo w (i_Mo w h)) hown hK hP 0 rfl rfl 34 (by decide) (hts _ (u_Mq_Mo _ k_Mo_41)) (fun _ h9 => h9) rfl d_Mo_scan_29 ?_
        refine lv_iload_n hx hb d_Mo_scan_32 rfl (lv_at hl 2 rfl) ?_
        refine lv_aload_n hx hb d_Mo_scan_33 rfl (lv_at hl 0 rfl) ?_
        refine va_get (D := (dC, dI)) (ci := 12) (v := .ref M.a_chain) (C := R_Mo) (T := F_Mo) (N := 66) hx hb hts (fun w h => u_Mq_Mo w (i_Mo w h)) hown hK hP 0 rfl rfl 33 (by decide) (hts _ (u_Mq_Mo _ k_Mo_40)) (fun _ h9 => h9) rfl d_Mo_scan_34 ?_
        refine lv_iload_n hx hb d_Mo_scan_37 rfl (lv_at hl 2 rfl) ?_
        obtain ⟨g_9, h⟩ := lf_gE h
        refine va_iald hx hb hK hP 15 14 rfl rfl g_9 d_Mo_scan_38 ?_
        obtain ⟨g_10, h⟩ := lf_gE h
        refine va_iast hx hb hK hP hD hS 16 15 rfl rfl g_10 d_Mo_scan_39 (fun H locs hP hD hS => ?_)
        obtain ⟨S_11, eS_11, h⟩ := lf_lX h
        have hP := lx_newP eS_11 hP
        have hD := lx_newD eS_11 hD
        obtain ⟨x_12, ex_12, h⟩ := lf_lX h
        refine lv_iinc (v := x_12) (lv' := [(2, .int x_12), (0, .ref M.o), (1, .int y_1)]) hx hb d_Mo_scan_40 hl (k := 2) rfl (by rw [ex_12]; rfl) (by decide) rfl (fun ls hl => ?_)
        refine lv_goto (tgt := 20) hx hb d_Mo_scan_43 (by decide) ?_
        exact hr_20 y_1 x_12 S_11 _ _ _ h hP hD hS (lv_sub hl [1, 2, 0] rfl)
  rw [f_Mo_scan] at h
  refine lv_aload_n hx hb d_Mo_scan_0 rfl (lv_at hl 0 rfl) ?_
  refine lv_aload_n hx hb d_Mo_scan_1 rfl (lv_at hl 0 rfl) ?_
  refine lv_iload_n hx hb d_Mo_scan_2 rfl (lv_at hl 1 rfl) ?_
  obtain ⟨r_1, S_1, hc_1, h⟩ := lf_cE h
  have hFc := lx_free hD hS hA
  refine va_calli (va_runV (As := [.int p0]) (rest := [.ref M.o]) ⟨hx, hb, hml, hown, hts⟩ (l_Mo_beginOf l dC dI X _ hc_1) (cwV 1 hts (gwV good_Mq (u_Mq_Mo _ k_Mo_124) (u_Mq_Mo _ k_Mo_125) (u_Mq_Mo _ k_Mo_490) (u_Mq_Mo _ k_Mo_0) (wcs (u_Mq_Mo _ k_Mo_126) (fun _ h => h))) rfl rfl rfl (by decide +kernel) ⟨Nat.le_of_ble_eq_true rfl, Nat.le_of_ble_eq_true rfl⟩) (pv_ofE (X.same _) (fun U z1 z2 => X.mono _ _ U hFc (hEw _ _ hS U z1 z2)) hP hK hD (va_recv hK hP (ci := 12) (q0 := 0) rfl rfl)) rfl rfl hl.1 rfl (lv_room (Nat.le_of_ble_eq_true rfl)) d_Mo_scan_3 ⟨by decide, by decide⟩) hS (fun q _ h => hFc q h) hFc (fun r_ u t H locs ht hvm hw hB hz1 hk1 hS => ?_)
  rw [hw]
  obtain ⟨hP, -, hD⟩ := hB
  rw [ht] at hP
  have hD := lx_dj hD hFc
  obtain ⟨r_2, S_2, hc_2, h⟩ := lf_cE h
  have hFc := lx_free hD hS hA
  refine va_calli (va_runV (As := [.int r_1]) (rest := []) ⟨hx, hb, hml, hown, hts⟩ (l_Mo_follows l dC dI X _ hc_2) (cwV 1 hts (gwV good_Mq (u_Mq_Mo _ k_Mo_130) (u_Mq_Mo _ k_Mo_131) (u_Mq_Mo _ k_Mo_486) (u_Mq_Mo _ k_Mo_0) (wcs (u_Mq_Mo _ k_Mo_132) (fun _ h => h))) rfl rfl rfl (by decide +kernel) ⟨Nat.le_of_ble_eq_true rfl, Nat.le_of_ble_eq_true rfl⟩) (pv_ofE (X.same _) (fun U z1 z2 => X.mono _ _ U hFc (hEw _ _ hS U z1 z2)) hP hK hD (va_recv hK hP (ci := 12) (q0 := 0) rfl rfl)) rfl rfl hl.1 rfl (lv_room (Nat.le_of_ble_eq_true rfl)) d_Mo_scan_6 ⟨by decide, by decide⟩) hS (fun q _ h => hFc q h) hFc (fun r_ u t H locs ht hvm hw hB hz1 hk1 hS => ?_)
  rw [hw]
  obtain ⟨hP, -, hD⟩ := hB
  rw [ht] at hP
  have hD := lx_dj hD hFc
  refine lv_if_ne (tgt := 18) hx hb d_Mo_scan_9 (by decide) (fun c_3 => ?_) (fun c_3 => ?_)
  · have h := lf_f h c_3
    refine lv_iconst (v := 0) hx hb d_Mo_scan_18 (by decide) ?_
    refine lv_istore_n (lv' := [(2, .int 0), (0, .ref M.o), (1, .int p0)]) hx hb d_Mo_scan_19 rfl hl (by decide) rfl (fun ls hl => ?_)
    exact hB_20 K p0 0 S_2 _ _ _ h hP hD hS (lv_sub hl [1, 2, 0] rfl)
  · have h := lf_t h c_3
    refine lv_aload_n hx hb d_Mo_scan_12 rfl (lv_at hl 0 rfl) ?_
    refine lv_iconst (v := 3) hx hb d_Mo_scan_13 (by decide) ?_
    refine va_put (D := (dC, dI)) (ci := 12) (v := .int 3) (ty := .int) (C := R_Mo) (T := F_Mo) (N := 66) hx hb hts (fun w h => u_Mq_Mo w (i_Mo w h)) t_Mo t_Mo_ok n_Mo hown hK hP hD hS 0 rfl rfl 20 (by decide) (hts _ (u_Mq_Mo _ k_Mo_27)) (fun _ h9 => h9) rfl (by decide +kernel) rfl rfl (Nat.le_of_ble_eq_true rfl) d_Mo_scan_14 (fun H locs hP hD hS => ?_)
    obtain ⟨S_4, eS_4, h⟩ := lf_lX h
    have hP := lx_newP eS_4 hP
    have hD := lx_newD eS_4 hD
    rw [hQ]
    have e2 : S_4 = S' := Option.some.inj h
    have hP := lx_newP e2.symm hP
    have hD := lx_newD e2.symm hD
    exact W.vret hx hb hr (fun t ht hW => ⟨⟨(), rfl, trivial, by rw [ht]; exact hP, va_K.moved hW.alike hK, hD⟩, hS.F ht⟩) hS.2.2 d_Mo_scan_17
set_option maxHeartbeats 4000000 in
set_option maxRecDepth 100000 in
theorem l_Mo_look (l : Launch) (dC : Nat → ClassId) (dI : Nat → Nat → Nat) {K : Nat} {M : MA} {E : (Nat → Prop) → State → Prop} (X : lx_X l dC dI K M E) (sz : Nat) {S S' : MS} (h : f_Mo_look K S = some S') : Met l y_Mo_look (.code y_Mo_look b_Mo_look 2 none :: V_Mq) ({ frames := 11, cells := 0, slots := 0, locals := 318 }) (va_Pc [.ref M.o] (fun U => U.heap.size = sz ∧ at_ (dC, dI) (fun _ => True) (wM M S) (tM M) U ∧ E (va_A (wM M S) sz) U)) (va_Qv (fun (u : Unit) => True) (fun (u : Unit) t => at_ (dC, dI) (va_A (wM M S) sz) (wM M S') (tM M) t) (va_A (wM M S) sz)) 0 0 (va_A (wM M S) sz) := by
  refine Met.ofW (cc := b_Mo_look) (maxL := 2) (ret := none) (by decide) rfl ?_
  intro p e s m args below meth c s₁ B hml hv
  obtain ⟨rfl, hsz, ⟨hP, hK, hD0⟩, hE⟩ := hv
  have hx := B.exec
  have hb := B.bytes
  have hr := B.returns
  have hts0 := atoms_spec (ws := .code y_Mo_look b_Mo_look 2 none :: V_Mq) B.pre
  have hts : ∀ w ∈ V_Mq, w.before ([.ref M.o] : List Value).toArray s = true := fun w h => hts0 w (List.mem_cons_of_mem _ h)
  have hown : s.vm.findClass R_Mo = some m.cls := findClass_of_methodNamed B.named
  subst hsz
  have hD := hD0.self (sz := s.heap.size)
  generalize hAe : va_A (wM M S) s.heap.size = A at hD hE ⊢
  have hA : ∀ q : Nat, s.heap.size ≤ q → A q := fun q h => by rw [← hAe]; exact Or.inr h
  have hS : va_S A s.heap s.heap [] := va_S.rf
  have hP : va_P (dC, dI) classes (wM M S) s.heap := hP
  have hK : va_K (dC, dI) classes (tM M) s := hK
  have hEw : ∀ (H : Heap) (locs : List Loc), va_S A s.heap H locs → ∀ U : State, U.heap = H → s.WarmedH U.vm → E A U := fun H locs hS U hU hW => X.kept A s U H locs hE hS hU hW
  have hl := lv_entry ([.ref M.o]) (n := 2) (Nat.le_of_ble_eq_true rfl)
  rw [lg_entry_eq]
  generalize (lg_sl ([.ref M.o]) ++ List.replicate (2 - (lg_sl ([.ref M.o])).length) Slot.unset).toArray = ls at hl ⊢
  have hl : lv_has ls 2 [(0, .ref M.o)] := hl
  refine qabs (fun Q hQ => ?_)
  have hB_132 : ∀ (rec_87 : Int32 → MS → Option (MS)) (hr_87 : ∀ (y_1 : Int32) (S : MS) (H : Heap) (locs : List Loc) (ls : Array Slot), rec_87 y_1 S = some S' → va_P (dC, dI) classes (wM M S) H → va_D A (wM M S) → va_S A s.heap H locs → lv_has ls 2 [(0, .ref M.o), (1, .int y_1)] → W p l e ({ frames := 11, cells := 0, slots := 0, locals := 318 }) s m ([.ref M.o] : List Value).toArray below meth c H locs 0 0 Q (F0 m 87 ls [])), ∀ (y_1 : Int32) (S : MS) (H : Heap) (locs : List Loc) (ls : Array Slot), f_Mo_look_132 K rec_87 y_1 S = some S' → va_P (dC, dI) classes (wM M S) H → va_D A (wM M S) → va_S A s.heap H locs → lv_has ls 2 [(0, .ref M.o), (1, .int y_1)] → W p l e ({ frames := 11, cells := 0, slots := 0, locals := 318 }) s m ([.ref M.o] : List Value).toArray below meth c H locs 0 0 Q (F0 m 132 ls []) := by
    intro rec_87 hr_87 y_1 S H locs ls h hP hD hS hl
    rw [f_Mo_look_132] at h
    obtain ⟨x_25, ex_25, h⟩ := lf_lX h
    refine lv_iinc (v := x_25) (lv' := [(1, .int x_25), (0, .ref M.o)]) hx hb d_Mo_look_132 hl (k := 1) rfl (by rw [ex_25]; rfl) (by decide) rfl (fun ls hl => ?_)
    refine lv_goto (tgt := 87) hx hb d_Mo_look_135 (by decide) ?_
    exact hr_87 x_25 S _ _ _ h hP hD hS (lv_sub hl [1, 0] rfl)
  have hB_180 : ∀ (rec_140 : Int32 → MS → Option (MS)) (hr_140 : ∀ (y_1 : Int32) (S : MS) (H : Heap) (locs : List Loc) (ls : Array Slot), rec_140 y_1 S = some S' → va_P (dC, dI) classes (wM M S) H → va_D A (wM M S) → va_S A s.heap H locs → lv_has ls 2 [(0, .ref M.o), (1, .int y_1)] → W p l e ({ frames := 11, cells := 0, slots := 0, locals := 318 }) s m ([.ref M.o] : List Value).toArray below meth c H locs 0 0 Q (F0 m 140 ls [])), ∀ (y_1 : Int32) (S : MS) (H : Heap) (locs : List Loc) (ls : Array Slot), f_Mo_look_180 K rec_140 y_1 S = some S' → va_P (dC, dI) classes (wM M S) H → va_D A (wM M S) → va_S A s.heap H locs → lv_has ls 2 [(0, .ref M.o), (1, .int y_1)] → W p l e ({ frames := 11, cells := 0, slots := 0, locals := 318 }) s m ([.ref M.o] : List Value).toArray below meth c H locs 0 0 Q (F0 m 180 ls []) := by
    intro rec_140 hr_140 y_1 S H locs ls h hP hD hS hl
    rw [f_Mo_look_180] at h
    obtain ⟨x_33, ex_33, h⟩ := lf_lX h
    refine lv_iinc (v := x_33) (lv' := [(1, .int x_33), (0, .ref M.o)]) hx hb d_Mo_look_180 hl (k := 1) rfl (by rw [ex_33]; rfl) (by decide) rfl (fun ls hl => ?_)
    refine lv_goto (tgt := 140) hx hb d_Mo_look_183 (by decide) ?_
    exact hr_140 x_33 S _ _ _ h hP hD hS (lv_sub hl [1, 0] rfl)
  have hB_140 : ∀ (k : Nat), ∀ (y_1 : Int32) (S : MS) (H : Heap) (locs : List Loc) (ls : Array Slot), f_Mo_look_140 K k y_1 S = some S' → va_P (dC, dI) classes (wM M S) H → va_D A (wM M S) → va_S A s.heap H locs → lv_has ls 2 [(0, .ref M.o), (1, .int y_1)] → W p l e ({ frames := 11, cells := 0, slots := 0, locals := 318 }) s m ([.ref M.o] : List Value).toArray below meth c H locs 0 0 Q (F0 m 140 ls []) := by
    intro k
    induction k with
    | zero => intro y_1 S H locs ls h; exact lf_no h
    | succ k hr_140 =>
      intro y_1 S H locs ls h hP hD hS hl
      rw [f_Mo_look_140] at h
      refine lv_iload_n hx hb d_Mo_look_140 rfl (lv_at hl 1 rfl) ?_
      refine lv_aload_n hx hb d_Mo_look_141 rfl (lv_at hl 0 rfl) ?_
      refine va_get (D := (dC, dI)) (ci := 12) (v := .int S.v_k) (C := R_Mo) (T := F_Mo) (N := 66) hx hb hts (fun w h => u_Mq_Mo w (i_Mo w h)) hown hK hP 0 rfl rfl 17 (by decide) (hts _ (u_Mq_Mo _ k_Mo_24)) (fun _ h9 => h9) rfl d_Mo_look_142 ?_
      refine lv_iconst (v := 2) hx hb d_Mo_look_145 (by decide) ?_
      refine lv_iadd hx hb d_Mo_look_146 ?_
      refine lv_icmp_ge (tgt := 186) hx hb d_Mo_look_147 (by decide) (fun c_26 => ?_) (fun c_26 => ?_)
      · have h := lf_t h c_26
        rw [hQ]
        have e2 : S = S' := Option.some.inj h
        have hP := lx_newP e2.symm hP
        have hD := lx_newD e2.symm hD
        exact W.vret hx hb hr (fun t ht hW => ⟨⟨(), rfl, trivial, by rw [ht]; exact hP, va_K.moved hW.alike hK, hD⟩, hS.F ht⟩) hS.2.2 d_Mo_look_186
      · have h := lf_f h c_26
        refine lv_aload_n hx hb d_Mo_look_150 rfl (lv_at hl 0 rfl) ?_
        refine va_get (D := (dC, dI)) (ci := 12) (v := .int S.v_fault) (C := R_Mo) (T := F_Mo) (N := 66) hx hb hts (fun w h => u_Mq_Mo w (i_Mo w h)) hown hK hP 0 rfl rfl 20 (by decide) (hts _ (u_Mq_Mo _ k_Mo_27)) (fun _ h9 => h9) rfl d_Mo_look_151 ?_
        refine lv_if_ne (tgt := 186) hx hb d_Mo_look_154 (by decide) (fun c_27 => ?_) (fun c_27 => ?_)
        · have h := lf_f h c_27
          rw [hQ]
          have e2 : S = S' := Option.some.inj h
          have hP := lx_newP e2.symm hP
          have hD := lx_newD e2.symm hD
          exact W.vret hx hb hr (fun t ht hW => ⟨⟨(), rfl, trivial, by rw [ht]; exact hP, va_K.moved hW.alike hK, hD⟩, hS.F ht⟩) hS.2.2 d_Mo_look_186
        · have h := lf_t h c_27
          refine lv_aload_n hx hb d_Mo_look_157 rfl (lv_at hl 0 rfl) ?_
          refine lv_iload_n hx hb d_Mo_look_158 rfl (lv_at hl 1 rfl) ?_
          obtain ⟨r_28, S_28, hc_28, h⟩ := lf_cE h
          have hFc := lx_free hD hS hA
          refine va_calli (va_runV (As := [.int y_1]) (rest := []) ⟨hx, hb, hml, hown, hts⟩ (l_Mo_entry l dC dI X _ hc_28) (cwV 1 hts (gwV good_Mq (u_Mq_Mo _ k_Mo_110) (u_Mq_Mo _ k_Mo_111) (u_Mq_Mo _ k_Mo_480) (u_Mq_Mo _ k_Mo_0) (wcs (u_Mq_Mo _ k_Mo_112) (fun _ h => h))) rfl rfl rfl (by decide +kernel) ⟨Nat.le_of_ble_eq_true rfl, Nat.le_of_ble_eq_true rfl⟩) (pv_ofE (X.same _) (fun U z1 z2 => X.mono _ _ U hFc (hEw _ _ hS U z1 z2)) hP hK hD (va_recv hK hP (ci := 12) (q0 := 0) rfl rfl)) rfl rfl hl.1 rfl (lv_room (Nat.le_of_ble_eq_true rfl)) d_Mo_look_159 ⟨by decide, by decide⟩) hS (fun q _ h => hFc q h) hFc (fun r_ u t H locs ht hvm hw hB hz1 hk1 hS => ?_)
          rw [hw]
          obtain ⟨hP, -, hD⟩ := hB
          rw [ht] at hP
          have hD := lx_dj hD hFc
          refine lv_if_eq (tgt := 180) hx hb d_Mo_look_162 (by decide) (fun c_29 => ?_) (fun c_29 => ?_)
          · have h := lf_t h c_29
            exact hB_180 _ hr_140 y_1 S_28 _ _ _ h hP hD hS (lv_sub hl [0, 1] rfl)
          · have h := lf_f h c_29
            refine lv_aload_n hx hb d_Mo_look_165 rfl (lv_at hl 0 rfl) ?_
            refine va_get (D := (dC, dI)) (ci := 12) (v := .ref M.a_chained) (C := R_Mo) (T := F_Mo) (N := 66) hx hb hts (fun w h => u_Mq_Mo w (i_Mo w h)) hown hK hP 0 rfl rfl 23 (by decide) (hts _ (u_Mq_Mo _ k_Mo_30)) (fun _ h9 => h9) rfl d_Mo_look_166 ?_
            refine lv_iload_n hx hb d_Mo_look_169 rfl (lv_at hl 1 rfl) ?_
            obtain ⟨g_30, h⟩ := lf_gE h
            refine va_zald hx hb hK hP 5 4 rfl rfl g_30 d_Mo_look_170 ?_
            refine lv_if_ne (tgt := 180) hx hb d_Mo_look_171 (by decide) (fun c_31 => ?_) (fun c_31 => ?_)
            · have h := lf_f h c_31
              exact hB_180 _ hr_140 y_1 S_28 _ _ _ h hP hD hS (lv_sub hl [0, 1] rfl)
            · have h := lf_t h c_31
              refine lv_aload_n hx hb d_Mo_look_174 rfl (lv_at hl 0 rfl) ?_
              refine lv_bipush (v := 6) hx hb d_Mo_look_175 (by decide) ?_
              refine va_put (D := (dC, dI)) (ci := 12) (v := .int 6) (ty := .int) (C := R_Mo) (T := F_Mo) (N := 66) hx hb hts (fun w h => u_Mq_Mo w (i_Mo w h)) t_Mo t_Mo_ok n_Mo hown hK hP hD hS 0 rfl rfl 20 (by decide) (hts _ (u_Mq_Mo _ k_Mo_27)) (fun _ h9 => h9) rfl (by decide +kernel) rfl rfl (Nat.le_of_ble_eq_true rfl) d_Mo_look_177 (fun H locs hP hD hS => ?_)
              obtain ⟨S_32, eS_32, h⟩ := lf_lX h
              have hP := lx_newP eS_32 hP
              have hD := lx_newD eS_32 hD
              exact hB_180 _ hr_140 y_1 S_32 _ _ _ h hP hD hS (lv_sub hl [0, 1] rfl)
  have hB_138 : ∀ (S : MS) (H : Heap) (locs : List Loc) (ls : Array Slot), f_Mo_look_138 K S = some S' → va_P (dC, dI) classes (wM M S) H → va_D A (wM M S) → va_S A s.heap H locs → lv_has ls 2 [(0, .ref M.o)] → W p l e ({ frames := 11, cells := 0, slots := 0, locals := 318 }) s m ([.ref M.o] : List Value).toArray below meth c H locs 0 0 Q (F0 m 138 ls []) := by
    intro S H locs ls h hP hD hS hl
    rw [f_Mo_look_138] at h
    refine lv_iconst (v := 2) hx hb d_Mo_look_138 (by decide) ?_
    refine lv_istore_n (lv' := [(1, .int 2), (0, .ref M.o)]) hx hb d_Mo_look_139 rfl hl (by decide) rfl (fun ls hl => ?_)
    exact hB_140 K 2 S _ _ _ h hP hD hS (lv_sub hl [1, 0] rfl)
  have hB_87 : ∀ (k : Nat), ∀ (y_1 : Int32) (S : MS) (H : Heap) (locs : List Loc) (ls : Array Slot), f_Mo_look_87 K k y_1 S = some S' → va_P (dC, dI) classes (wM M S) H → va_D A (wM M S) → va_S A s.heap H locs → lv_has ls 2 [(0, .ref M.o), (1, .int y_1)] → W p l e ({ frames := 11, cells := 0, slots := 0, locals := 318 }) s m ([.ref M.o] : List Value).toArray below meth c H locs 0 0 Q (F0 m 87 ls []) := by
    intro k
    induction k with
    | zero => intro y_1 S H locs ls h; exact lf_no h
    | succ k hr_87 =>
      intro y_1 S H locs ls h hP hD hS hl
      rw [f_Mo_look_87] at h
      refine lv_iload_n hx hb d_Mo_look_87 rfl (lv_at hl 1 rfl) ?_
      refine lv_aload_n hx hb d_Mo_look_88 rfl (lv_at hl 0 rfl) ?_
      refine va_get (D := (dC, dI)) (ci := 12) (v := .int S.v_items) (C := R_Mo) (T := F_Mo) (N := 66) hx hb hts (fun w h => u_Mq_Mo w (i_Mo w h)) hown hK hP 0 rfl rfl 21 (by decide) (hts _ (u_Mq_Mo _ k_Mo_28)) (fun _ h9 => h9) rfl d_Mo_look_89 ?_
      refine lv_icmp_ge (tgt := 138) hx hb d_Mo_look_92 (by decide) (fun c_16 => ?_) (fun c_16 => ?_)
      · have h := lf_t h c_16
        exact hB_138 S _ _ _ h hP hD hS (lv_sub hl [0] rfl)
      · have h := lf_f h c_16
        refine lv_aload_n hx hb d_Mo_look_95 rfl (lv_at hl 0 rfl) ?_
        refine va_get (D := (dC, dI)) (ci := 12) (v := .int S.v_fault) (C := R_Mo) (T := F_Mo) (N := 66) hx hb hts (fun w h => u_Mq_Mo w (i_Mo w h)) hown hK hP 0 rfl rfl 20 (by decide) (hts _ (u_Mq_Mo _ k_Mo_27)) (fun _ h9 => h9) rfl d_Mo_look_96 ?_
        refine lv_if_ne (tgt := 138) hx hb d_Mo_look_99 (by decide) (fun c_17 => ?_) (fun c_17 => ?_)
        · have h := lf_f h c_17
          exact hB_138 S _ _ _ h hP hD hS (lv_sub hl [0] rfl)
        · have h := lf_t h c_17
          refine lv_aload_n hx hb d_Mo_look_102 rfl (lv_at hl 0 rfl) ?_
          refine va_get (D := (dC, dI)) (ci := 12) (v := .ref M.a_firstKid) (C := R_Mo) (T := F_Mo) (N := 66) hx hb hts (fun w h => u_Mq_Mo w (i_Mo w h)) hown hK hP 0 rfl rfl 29 (by decide) (hts _ (u_Mq_Mo _ k_Mo_36)) (fun _ h9 => h9) rfl d_Mo_look_103 ?_
          refine lv_iload_n hx hb d_Mo_look_106 rfl (lv_at hl 1 rfl) ?_
          refine lv_aload_n hx hb d_Mo_look_107 rfl (lv_at hl 0 rfl) ?_
          refine va_get (D := (dC, dI)) (ci := 12) (v := .int S.v_items) (C := R_Mo) (T := F_Mo) (N := 66) hx hb hts (fun w h => u_Mq_Mo w (i_Mo w h)) hown hK hP 0 rfl rfl 21 (by decide) (hts _ (u_Mq_Mo _ k_Mo_28)) (fun _ h9 => h9) rfl d_Mo_look_108 ?_
          obtain ⟨g_18, h⟩ := lf_gE h
          refine va_iast hx hb hK hP hD hS 11 10 rfl rfl g_18 d_Mo_look_111 (fun H locs hP hD hS => ?_)
          obtain ⟨S_19, eS_19, h⟩ := lf_lX h
          have hP := lx_newP eS_19 hP
          have hD := lx_newD eS_19 hD
          refine lv_aload_n hx hb d_Mo_look_112 rfl (lv_at hl 0 rfl) ?_
          refine va_get (D := (dC, dI)) (ci := 12) (v := .ref M.a_kids) (C := R_Mo) (T := F_Mo) (N := 66) hx hb hts (fun w h => u_Mq_Mo w (i_Mo w h)) hown hK hP 0 rfl rfl 28 (by decide) (hts _ (u_Mq_Mo _ k_Mo_35)) (fun _ h9 => h9) rfl d_Mo_look_113 ?_
          refine lv_iload_n hx hb d_Mo_look_116 rfl (lv_at hl 1 rfl) ?_
          refine lv_iconst (v := 0) hx hb d_Mo_look_117 (by decide) ?_
          obtain ⟨g_20, h⟩ := lf_gE h
          refine va_iast hx hb hK hP hD hS 10 9 rfl rfl g_20 d_Mo_look_118 (fun H locs hP hD hS => ?_)
          obtain ⟨S_21, eS_21, h⟩ := lf_lX h
          have hP := lx_newP eS_21 hP
          have hD := lx_newD eS_21 hD
          refine lv_aload_n hx hb d_Mo_look_119 rfl (lv_at hl 0 rfl) ?_
          refine lv_iload_n hx hb d_Mo_look_120 rfl (lv_at hl 1 rfl) ?_
          obtain ⟨r_22, S_22, hc_22, h⟩ := lf_cE h
          have hFc := lx_free hD hS hA
          refine va_calli (va_runV (As := [.int y_1]) (rest := []) ⟨hx, hb, hml, hown, hts⟩ (l_Mo_isFolder l dC dI X _ hc_22) (cwV 1 hts (gwV good_Mq (u_Mq_Mo _ k_Mo_118) (u_Mq_Mo _ k_Mo_119) (u_Mq_Mo _ k_Mo_489) (u_Mq_Mo _ k_Mo_0) (wcs (u_Mq_Mo _ k_Mo_120) (fun _ h => h))) rfl rfl rfl (by decide +kernel) ⟨Nat.le_of_ble_eq_true rfl, Nat.le_of_ble_eq_true rfl⟩) (pv_ofE (X.same _) (fun U z1 z2 => X.mono _ _ U hFc (hEw _ _ hS U z1 z2)) hP hK hD (va_recv hK hP (ci := 12) (q0 := 0) rfl rfl)) rfl rfl hl.1 rfl (lv_room (Nat.le_of_ble_eq_true rfl)) d_Mo_look_121 ⟨by decide, by decide⟩) hS (fun q _ h => hFc q h) hFc (fun r_ u t H locs ht hvm hw hB hz1 hk1 hS => ?_)
          rw [hw]
          obtain ⟨hP, -, hD⟩ := hB
          rw [ht] at hP
          have hD := lx_dj hD hFc
          refine lv_if_eq (tgt := 132) hx hb d_Mo_look_124 (by decide) (fun c_23 => ?_) (fun c_23 => ?_)
          · have h := lf_t h c_23
            exact hB_132 _ hr_87 y_1 S_22 _ _ _ h hP hD hS (lv_sub hl [0, 1] rfl)
          · have h := lf_f h c_23
            refine lv_aload_n hx hb d_Mo_look_127 rfl (lv_at hl 0 rfl) ?_
            refine lv_iload_n hx hb d_Mo_look_128 rfl (lv_at hl 1 rfl) ?_
            obtain ⟨S_24, hc_24, h⟩ := lf_bE h
            have hFc := lx_free hD hS hA
            refine va_callv (va_runV (As := [.int y_1]) (rest := []) ⟨hx, hb, hml, hown, hts⟩ (l_Mo_scan l dC dI X _ hc_24) (cwV 1 hts (gwV good_Mq (u_Mq_Mo _ k_Mo_121) (u_Mq_Mo _ k_Mo_122) (u_Mq_Mo _ k_Mo_494) (u_Mq_Mo _ k_Mo_0) (wcs (u_Mq_Mo _ k_Mo_123) (fun _ h => h))) rfl rfl rfl (by decide +kernel) ⟨Nat.le_of_ble_eq_true rfl, Nat.le_of_ble_eq_true rfl⟩) (pv_ofE (X.same _) (fun U z1 z2 => X.mono _ _ U hFc (hEw _ _ hS U z1 z2)) hP hK hD (va_recv hK hP (ci := 12) (q0 := 0) rfl rfl)) rfl rfl hl.1 rfl (lv_room (Nat.le_of_ble_eq_true rfl)) d_Mo_look_129 ⟨by decide, by decide⟩) hS (fun q _ h => hFc q h) hFc (fun u t H locs ht hvm hw hB hz1 hk1 hS => ?_)
            obtain ⟨hP, -, hD⟩ := hB
            rw [ht] at hP
            have hD := lx_dj hD hFc
            exact hB_132 _ hr_87 y_1 S_24 _ _ _ h hP hD hS (lv_sub hl [0, 1] rfl)
  have hB_65 : ∀ (k : Nat), ∀ (y_1 : Int32) (S : MS) (H : Heap) (locs : List Loc) (ls : Array Slot), f_Mo_look_65 K k y_1 S = some S' → va_P (dC, dI) classes (wM M S) H → va_D A (wM M S) → va_S A s.heap H locs → lv_has ls 2 [(0, .ref M.o), (1, .int y_1)] → W p l e ({ frames := 11, cells := 0, slots := 0, locals := 318 }) s m ([.ref M.o] : List Value).toArray below meth c H locs 0 0 Q (F0 m 65 ls []) := by
    intro k
    induction k with
    | zero => intro y_1 S H locs ls h; exact lf_no h
    | succ k hr_65 =>
      intro y_1 S H locs ls h hP hD hS hl
      rw [f_Mo_look_65] at h
      refine lv_iload_n hx hb d_Mo_look_65 rfl (lv_at hl 1 rfl) ?_
      refine lv_sipush (v := 560) hx hb d_Mo_look_66 (by decide) ?_
      refine lv_icmp_ge (tgt := 85) hx hb d_Mo_look_69 (by decide) (fun c_12 => ?_) (fun c_12 => ?_)
      · have h := lf_t h c_12
        refine lv_iconst (v := 0) hx hb d_Mo_look_85 (by decide) ?_
        refine lv_istore_n (lv' := [(1, .int 0), (0, .ref M.o)]) hx hb d_Mo_look_86 rfl hl (by decide) rfl (fun ls hl => ?_)
        exact hB_87 K 0 S _ _ _ h hP hD hS (lv_sub hl [1, 0] rfl)
      · have h := lf_f h c_12
        refine lv_aload_n hx hb d_Mo_look_72 rfl (lv_at hl 0 rfl) ?_
        refine va_get (D := (dC, dI)) (ci := 12) (v := .ref M.a_chained) (C := R_Mo) (T := F_Mo) (N := 66) hx hb hts (fun w h => u_Mq_Mo w (i_Mo w h)) hown hK hP 0 rfl rfl 23 (by decide) (hts _ (u_Mq_Mo _ k_Mo_30)) (fun _ h9 => h9) rfl d_Mo_look_73 ?_
        refine lv_iload_n hx hb d_Mo_look_76 rfl (lv_at hl 1 rfl) ?_
        refine lv_iconst (v := 0) hx hb d_Mo_look_77 (by decide) ?_
        obtain ⟨g_13, h⟩ := lf_gE h
        refine va_zast hx hb hK hP hD hS 5 4 rfl rfl g_13 d_Mo_look_78 (fun H locs hP hD hS => ?_)
        obtain ⟨S_14, eS_14, h⟩ := lf_lX h
        have hP := lx_newP eS_14 hP
        have hD := lx_newD eS_14 hD
        obtain ⟨x_15, ex_15, h⟩ := lf_lX h
        refine lv_iinc (v := x_15) (lv' := [(1, .int x_15), (0, .ref M.o)]) hx hb d_Mo_look_79 hl (k := 1) rfl (by rw [ex_15]; rfl) (by decide) rfl (fun ls hl => ?_)
        refine lv_goto (tgt := 65) hx hb d_Mo_look_82 (by decide) ?_
        exact hr_65 x_15 S_14 _ _ _ h hP hD hS (lv_sub hl [1, 0] rfl)
  have hB_52 : ∀ (z_1 : Int32) (S : MS) (H : Heap) (locs : List Loc) (ls : Array Slot), f_Mo_look_52 K z_1 S = some S' → va_P (dC, dI) classes (wM M S) H → va_D A (wM M S) → va_S A s.heap H locs → lv_has ls 2 [(0, .ref M.o)] → W p l e ({ frames := 11, cells := 0, slots := 0, locals := 318 }) s m ([.ref M.o] : List Value).toArray below meth c H locs 0 0 Q (F0 m 52 ls [.int z_1, .ref M.o]) := by
    intro z_1 S H locs ls h hP hD hS hl
    rw [f_Mo_look_52] at h
    refine va_put (D := (dC, dI)) (ci := 12) (v := .int z_1) (ty := .int) (C := R_Mo) (T := F_Mo) (N := 66) hx hb hts (fun w h => u_Mq_Mo w (i_Mo w h)) t_Mo t_Mo_ok n_Mo hown hK hP hD hS 0 rfl rfl 20 (by decide) (hts _ (u_Mq_Mo _ k_Mo_27)) (fun _ h9 => h9) rfl (by decide +kernel) rfl rfl (Nat.le_of_ble_eq_true rfl) d_Mo_look_52 (fun H locs hP hD hS => ?_)
    obtain ⟨S_10, eS_10, h⟩ := lf_lX h
    have hP := lx_newP eS_10 hP
    have hD := lx_newD eS_10 hD
    refine lv_aload_n hx hb d_Mo_look_55 rfl (lv_at hl 0 rfl) ?_
    refine va_get (D := (dC, dI)) (ci := 12) (v := .int S_10.v_fault) (C := R_Mo) (T := F_Mo) (N := 66) hx hb hts (fun w h => u_Mq_Mo w (i_Mo w h)) hown hK hP 0 rfl rfl 20 (by decide) (hts _ (u_Mq_Mo _ k_Mo_27)) (fun _ h9 => h9) rfl d_Mo_look_56 ?_
    refine lv_if_le (tgt := 63) hx hb d_Mo_look_59 (by decide) (fun c_11 => ?_) (fun c_11 => ?_)
    · have h := lf_t h c_11
      refine lv_iconst (v := 0) hx hb d_Mo_look_63 (by decide) ?_
      refine lv_istore_n (lv' := [(1, .int 0), (0, .ref M.o)]) hx hb d_Mo_look_64 rfl hl (by decide) rfl (fun ls hl => ?_)
      exact hB_65 K 0 S_10 _ _ _ h hP hD hS (lv_sub hl [1, 0] rfl)
    · have h := lf_f h c_11
      rw [hQ]
      have e2 : S_10 = S' := Option.some.inj h
      have hP := lx_newP e2.symm hP
      have hD := lx_newD e2.symm hD
      exact W.vret hx hb hr (fun t ht hW => ⟨⟨(), rfl, trivial, by rw [ht]; exact hP, va_K.moved hW.alike hK, hD⟩, hS.F ht⟩) hS.2.2 d_Mo_look_62
  rw [f_Mo_look] at h
  refine lv_aload_n hx hb d_Mo_look_0 rfl (lv_at hl 0 rfl) ?_
  refine va_get (D := (dC, dI)) (ci := 12) (v := .int S.v_looked) (C := R_Mo) (T := F_Mo) (N := 66) hx hb hts (fun w h => u_Mq_Mo w (i_Mo w h)) hown hK hP 0 rfl rfl 19 (by decide) (hts _ (u_Mq_Mo _ k_Mo_26)) (fun _ h9 => h9) rfl d_Mo_look_1 ?_
  refine lv_if_eq (tgt := 8) hx hb d_Mo_look_4 (by decide) (fun c_1 => ?_) (fun c_1 => ?_)
  · have h := lf_t h c_1
    refine lv_aload_n hx hb d_Mo_look_8 rfl (lv_at hl 0 rfl) ?_
    refine lv_iconst (v := 1) hx hb d_Mo_look_9 (by decide) ?_
    refine va_put (D := (dC, dI)) (ci := 12) (v := .int 1) (ty := .boolean) (C := R_Mo) (T := F_Mo) (N := 66) hx hb hts (fun w h => u_Mq_Mo w (i_Mo w h)) t_Mo t_Mo_ok n_Mo hown hK hP hD hS 0 rfl rfl 19 (by decide) (hts _ (u_Mq_Mo _ k_Mo_26)) (fun _ h9 => h9) rfl (by decide +kernel) rfl rfl (Nat.le_of_ble_eq_true rfl) d_Mo_look_10 (fun H locs hP hD hS => ?_)
    obtain ⟨S_2, eS_2, h⟩ := lf_lX h
    have hP := lx_newP eS_2 hP
    have hD := lx_newD eS_2 hD
    refine lv_aload_n hx hb d_Mo_look_13 rfl (lv_at hl 0 rfl) ?_
    refine lv_iconst (v := 1) hx hb d_Mo_look_14 (by decide) ?_
    refine va_put (D := (dC, dI)) (ci := 12) (v := .int 1) (ty := .int) (C := R_Mo) (T := F_Mo) (N := 66) hx hb hts (fun w h => u_Mq_Mo w (i_Mo w h)) t_Mo t_Mo_ok n_Mo hown hK hP hD hS 0 rfl rfl 21 (by decide) (hts _ (u_Mq_Mo _ k_Mo_28)) (fun _ h9 => h9) rfl (by decide +kernel) rfl rfl (Nat.le_of_ble_eq_true rfl) d_Mo_look_15 (fun H locs hP hD hS => ?_)
    obtain ⟨S_3, eS_3, h⟩ := lf_lX h
    have hP := lx_newP eS_3 hP
    have hD := lx_newD eS_3 hD
    refine lv_aload_n hx hb d_Mo_look_18 rfl (lv_at hl 0 rfl) ?_
    refine lv_iconst (v := 0) hx hb d_Mo_look_19 (by decide) ?_
    refine va_put (D := (dC, dI)) (ci := 12) (v := .int 0) (ty := .int) (C := R_Mo) (T := F_Mo) (N := 66) hx hb hts (fun w h => u_Mq_Mo w (i_Mo w h)) t_Mo t_Mo_ok n_Mo hown hK hP hD hS 0 rfl rfl 22 (by decide) (hts _ (u_Mq_Mo _ k_Mo_29)) (fun _ h9 => h9) rfl (by decide +kernel) rfl rfl (Nat.le_of_ble_eq_true rfl) d_Mo_look_20 (fun H locs hP hD hS => ?_)
    obtain ⟨S_4, eS_4, h⟩ := lf_lX h
    have hP := lx_newP eS_4 hP
    have hD := lx_newD eS_4 hD
    refine lv_aload_n hx hb d_Mo_look_23 rfl (lv_at hl 0 rfl) ?_
    refine lv_iconst (v := (-1)) hx hb d_Mo_look_24 (by decide) ?_
    refine va_put (D := (dC, dI)) (ci := 12) (v := .int ((-1))) (ty := .int) (C := R_Mo) (T := F_Mo) (N := 66) hx hb hts (fun w h => u_Mq_Mo w (i_Mo w h)) t_Mo t_Mo_ok n_Mo hown hK hP hD hS 0 rfl rfl 37 (by decide) (hts _ (u_Mq_Mo _ k_Mo_44)) (fun _ h9 => h9) rfl (by decide +kernel) rfl rfl (Nat.le_of_ble_eq_true rfl) d_Mo_look_25 (fun H locs hP hD hS => ?_)
    obtain ⟨S_5, eS_5, h⟩ := lf_lX h
    have hP := lx_newP eS_5 hP
    have hD := lx_newD eS_5 hD
    refine lv_aload_n hx hb d_Mo_look_28 rfl (lv_at hl 0 rfl) ?_
    refine lv_aload_n hx hb d_Mo_look_29 rfl (lv_at hl 0 rfl) ?_
    obtain ⟨r_6, S_6, hc_6, h⟩ := lf_cE h
    have hFc := lx_free hD hS hA
    refine va_calli (va_runV (As := []) (rest := [.ref M.o]) ⟨hx, hb, hml, hown, hts⟩ (l_Mo_head l dC dI X _ hc_6) (cwV 0 hts (gwV good_Mq (u_Mq_Mo _ k_Mo_91) (u_Mq_Mo _ k_Mo_92) (u_Mq_Mo _ k_Mo_484) (u_Mq_Mo _ k_Mo_0) (wcs (u_Mq_Mo _ k_Mo_93) (fun _ h => h))) rfl rfl rfl (by decide +kernel) ⟨Nat.le_of_ble_eq_true rfl, Nat.le_of_ble_eq_true rfl⟩) (pv_ofE (X.same _) (fun U z1 z2 => X.mono _ _ U hFc (hEw _ _ hS U z1 z2)) hP hK hD (va_recv hK hP (ci := 12) (q0 := 0) rfl rfl)) rfl rfl hl.1 rfl (lv_room (Nat.le_of_ble_eq_true rfl)) d_Mo_look_30 ⟨by decide, by decide⟩) hS (fun q _ h => hFc q h) hFc (fun r_ u t H locs ht hvm hw hB hz1 hk1 hS => ?_)
    rw [hw]
    obtain ⟨hP, -, hD⟩ := hB
    rw [ht] at hP
    have hD := lx_dj hD hFc
    refine lv_if_ne (tgt := 40) hx hb d_Mo_look_33 (by decide) (fun c_7 => ?_) (fun c_7 => ?_)
    · have h := lf_f h c_7
      refine lv_aload_n hx hb d_Mo_look_40 rfl (lv_at hl 0 rfl) ?_
      obtain ⟨r_8, S_8, hc_8, h⟩ := lf_cE h
      have hFc := lx_free hD hS hA
      refine va_calli (va_runV (As := []) (rest := [.ref M.o]) ⟨hx, hb, hml, hown, hts⟩ (l_Mo_badTables l dC dI X _ hc_8) (cwV 0 hts (gwV good_Mq (u_Mq_Mo _ k_Mo_107) (u_Mq_Mo _ k_Mo_108) (u_Mq_Mo _ k_Mo_485) (u_Mq_Mo _ k_Mo_0) (wcs (u_Mq_Mo _ k_Mo_109) (fun _ h => h))) rfl rfl rfl (by decide +kernel) ⟨Nat.le_of_ble_eq_true rfl, Nat.le_of_ble_eq_true rfl⟩) (pv_ofE (X.same _) (fun U z1 z2 => X.mono _ _ U hFc (hEw _ _ hS U z1 z2)) hP hK hD (va_recv hK hP (ci := 12) (q0 := 0) rfl rfl)) rfl rfl hl.1 rfl (lv_room (Nat.le_of_ble_eq_true rfl)) d_Mo_look_41 ⟨by decide, by decide⟩) hS (fun q _ h => hFc q h) hFc (fun r_ u t H locs ht hvm hw hB hz1 hk1 hS => ?_)
      rw [hw]
      obtain ⟨hP, -, hD⟩ := hB
      rw [ht] at hP
      have hD := lx_dj hD hFc
      refine lv_if_eq (tgt := 51) hx hb d_Mo_look_44 (by decide) (fun c_9 => ?_) (fun c_9 => ?_)
      · have h := lf_t h c_9
        refine lv_iconst (v := 0) hx hb d_Mo_look_51 (by decide) ?_
        exact hB_52 0 S_8 _ _ _ h hP hD hS (lv_sub hl [0] rfl)
      · have h := lf_f h c_9
        refine lv_iconst (v := 2) hx hb d_Mo_look_47 (by decide) ?_
        refine lv_goto (tgt := 52) hx hb d_Mo_look_48 (by decide) ?_
        exact hB_52 2 S_8 _ _ _ h hP hD hS (lv_sub hl [0] rfl)
    · have h := lf_t h c_7
      refine lv_iconst (v := 1) hx hb d_Mo_look_36 (by decide) ?_
      refine lv_goto (tgt := 52) hx hb d_Mo_look_37 (by decide) ?_
      exact hB_52 1 S_6 _ _ _ h hP hD hS (lv_sub hl [0] rfl)
  · have h := lf_f h c_1
    rw [hQ]
    have e2 : S = S' := Option.some.inj h
    have hP := lx_newP e2.symm hP
    have hD := lx_newD e2.symm hD
    exact W.vret hx hb hr (fun t ht hW => ⟨⟨(), rfl, trivial, by rw [ht]; exact hP, va_K.moved hW.alike hK, hD⟩, hS.F ht⟩) hS.2.2 d_Mo_look_7
set_option maxHeartbeats 4000000 in
set_option maxRecDepth 100000 in
theorem l_Mo_loadFolder (l : Launch) (dC : Nat → ClassId) (dI : Nat → Nat → Nat) {K : Nat} {M : MA} {E : (Nat → Prop) → State → Prop} (X : lx_X l dC dI K M E) (sz : Nat) {S S' : MS} {p0 : Int32} (h : f_Mo_loadFolder K S p0 = some S') : Met l y_Mo_loadFolder (.code y_Mo_loadFolder b_Mo_loadFolder 3 none :: V_Mq) ({ frames := 5, cells := 0, slots := 0, locals := 106 }) (va_Pc [.ref M.o, .int p0] (fun U => U.heap.size = sz ∧ at_ (dC, dI) (fun _ => True) (wM M S) (tM M) U ∧ E (va_A (wM M S) sz) U)) (va_Qv (fun (u : Unit) => True) (fun (u : Unit) t => at_ (dC, dI) (va_A (wM M S) sz) (wM M S') (tM M) t) (va_A (wM M S) sz)) 0 0 (va_A (wM M S) sz) := by
  refine Met.ofW (cc := b_Mo_loadFolder) (maxL := 3) (ret := none) (by decide) rfl ?_
  intro p e s m args below meth c s₁ B hml hv
  obtain ⟨rfl, hsz, ⟨hP, hK, hD0⟩, hE⟩ := hv
  have hx := B.exec
  have hb := B.bytes
  have hr := B.returns
  have hts0 := atoms_spec (ws := .code y_Mo_loadFolder b_Mo_loadFolder 3 none :: V_Mq) B.pre
  have hts : ∀ w ∈ V_Mq, w.before ([.ref M.o, .int p0] : List Value).toArray s = true := fun w h => hts0 w (List.mem_cons_of_mem _ h)
  have hown : s.vm.findClass R_Mo = some m.cls := findClass_of_methodNamed B.named
  subst hsz
  have hD := hD0.self (sz := s.heap.size)
  generalize hAe : va_A (wM M S) s.heap.size = A at hD hE ⊢
  have hA : ∀ q : Nat, s.heap.size ≤ q → A q := fun q h => by rw [← hAe]; exact Or.inr h
  have hS : va_S A s.heap s.heap [] := va_S.rf
  have hP : va_P (dC, dI) classes (wM M S) s.heap := hP
  have hK : va_K (dC, dI) classes (tM M) s := hK
  have hEw : ∀ (H : Heap) (locs : List Loc), va_S A s.heap H locs → ∀ U : State, U.heap = H → s.WarmedH U.vm → E A U := fun H locs hS U hU hW => X.kept A s U H locs hE hS hU hW
  have hl := lv_entry ([.ref M.o, .int p0]) (n := 3) (Nat.le_of_ble_eq_true rfl)
  rw [lg_entry_eq]
  generalize (lg_sl ([.ref M.o, .int p0]) ++ List.replicate (3 - (lg_sl ([.ref M.o, .int p0])).length) Slot.unset).toArray = ls at hl ⊢
  have hl : lv_has ls 3 [(0, .ref M.o), (1, .int p0)] := hl
  refine qabs (fun Q hQ => ?_)
  have hB_11 : ∀ (k : Nat), ∀ (y_2 : Int32) (S : MS) (H : Heap) (locs : List Loc) (ls : Array Slot), f_Mo_loadFolder_11 K k y_2 S = some S' → va_P (dC, dI) classes (wM M S) H → va_D A (wM M S) → va_S A s.heap H locs → lv_has ls 3 [(0, .ref M.o), (2, .int y_2)] → W p l e ({ frames := 5, cells := 0, slots := 0, locals := 106 }) s m ([.ref M.o, .int p0] : List Value).toArray below meth c H locs 0 0 Q (F0 m 11 ls []) := by
    intro k
    induction k with
    | zero => intro y_2 S H locs ls h; exact lf_no h
    | succ k hr_11 =>
      intro y_2 S H locs ls h hP hD hS hl
      rw [f_Mo_loadFolder_11] at h
      refine lv_iload_n hx hb d_Mo_loadFolder_11 rfl (lv_at hl 1 rfl) ?_
      refine lv_aload_n hx hb d_Mo_loadFolder_12 rfl (lv_at hl 0 rfl) ?_
      refine va_get (D := (dC, dI)) (ci := 12) (v := .int S.v_links) (C := R_Mo) (T := F_Mo) (N := 66) hx hb hts (fun w h => u_Mq_Mo w (i_Mo w h)) hown hK hP 0 rfl rfl 35 (by decide) (hts _ (u_Mq_Mo _ k_Mo_42)) (fun _ h9 => h9) rfl d_Mo_loadFolder_13 ?_
      refine lv_icmp_ge (tgt := 37) hx hb d_Mo_loadFolder_16 (by decide) (fun c_3 => ?_) (fun c_3 => ?_)
      · have h := lf_t h c_3
        refine lv_aload_n hx hb d_Mo_loadFolder_37 rfl (lv_at hl 0 rfl) ?_
        refine lv_aload_n hx hb d_Mo_loadFolder_38 rfl (lv_at hl 0 rfl) ?_
        refine va_get (D := (dC, dI)) (ci := 12) (v := .int S.v_links) (C := R_Mo) (T := F_Mo) (N := 66) hx hb hts (fun w h => u_Mq_Mo w (i_Mo w h)) hown hK hP 0 rfl rfl 35 (by decide) (hts _ (u_Mq_Mo _ k_Mo_42)) (fun _ h9 => h9) rfl d_Mo_loadFolder_39 ?_
        refine va_put (D := (dC, dI)) (ci := 12) (v := .int S.v_links) (ty := .int) (C := R_Mo) (T := F_Mo) (N := 66) hx hb hts (fun w h => u_Mq_Mo w (i_Mo w h)) t_Mo t_Mo_ok n_Mo hown hK hP hD hS 0 rfl rfl 36 (by decide) (hts _ (u_Mq_Mo _ k_Mo_43)) (fun _ h9 => h9) rfl (by decide +kernel) rfl rfl (Nat.le_of_ble_eq_true rfl) d_Mo_loadFolder_42 (fun H locs hP hD hS => ?_)
        obtain ⟨S_4, eS_4, h⟩ := lf_lX h
        have hP := lx_newP eS_4 hP
        have hD := lx_newD eS_4 hD
        rw [hQ]
        have e2 : S_4 = S' := Option.some.inj h
        have hP := lx_newP e2.symm hP
        have hD := lx_newD e2.symm hD
        exact W.vret hx hb hr (fun t ht hW => ⟨⟨(), rfl, trivial, by rw [ht]; exact hP, va_K.moved hW.alike hK, hD⟩, hS.F ht⟩) hS.2.2 d_Mo_loadFolder_45
      · have h := lf_f h c_3
        refine lv_aload_n hx hb d_Mo_loadFolder_19 rfl (lv_at hl 0 rfl) ?_
        refine va_get (D := (dC, dI)) (ci := 12) (v := .ref M.a_folder) (C := R_Mo) (T := F_Mo) (N := 66) hx hb hts (fun w h => u_Mq_Mo w (i_Mo w h)) hown hK hP 0 rfl rfl 34 (by decide) (hts _ (u_Mq_Mo _ k_Mo_41)) (fun _ h9 => h9) rfl d_Mo_loadFolder_20 ?_
        refine lv_iload_n hx hb d_Mo_loadFolder_23 rfl (lv_at hl 1 rfl) ?_
        refine lv_aload_n hx hb d_Mo_loadFolder_24 rfl (lv_at hl 0 rfl) ?_
        refine va_get (D := (dC, dI)) (ci := 12) (v := .ref M.a_chain) (C := R_Mo) (T := F_Mo) (N := 66) hx hb hts (fun w h => u_Mq_Mo w (i_Mo w h)) hown hK hP 0 rfl rfl 33 (by decide) (hts _ (u_Mq_Mo _ k_Mo_40)) (fun _ h9 => h9) rfl d_Mo_loadFolder_25 ?_
        refine lv_iload_n hx hb d_Mo_loadFolder_28 rfl (lv_at hl 1 rfl) ?_
        obtain ⟨g_5, h⟩ := lf_gE h
        refine va_iald hx hb hK hP 15 14 rfl rfl g_5 d_Mo_loadFolder_29 ?_
        obtain ⟨g_6, h⟩ := lf_gE h
        refine va_iast hx hb hK hP hD hS 16 15 rfl rfl g_6 d_Mo_loadFolder_30 (fun H locs hP hD hS => ?_)
        obtain ⟨S_7, eS_7, h⟩ := lf_lX h
        have hP := lx_newP eS_7 hP
        have hD := lx_newD eS_7 hD
        obtain ⟨x_8, ex_8, h⟩ := lf_lX h
        refine lv_iinc (v := x_8) (lv' := [(2, .int x_8), (0, .ref M.o)]) hx hb d_Mo_loadFolder_31 hl (k := 1) rfl (by rw [ex_8]; rfl) (by decide) rfl (fun ls hl => ?_)
        refine lv_goto (tgt := 11) hx hb d_Mo_loadFolder_34 (by decide) ?_
        exact hr_11 x_8 S_7 _ _ _ h hP hD hS (lv_sub hl [1, 0] rfl)
  rw [f_Mo_loadFolder] at h
  refine lv_aload_n hx hb d_Mo_loadFolder_0 rfl (lv_at hl 0 rfl) ?_
  refine lv_aload_n hx hb d_Mo_loadFolder_1 rfl (lv_at hl 0 rfl) ?_
  refine lv_iload_n hx hb d_Mo_loadFolder_2 rfl (lv_at hl 1 rfl) ?_
  obtain ⟨r_1, S_1, hc_1, h⟩ := lf_cE h
  have hFc := lx_free hD hS hA
  refine va_calli (va_runV (As := [.int p0]) (rest := [.ref M.o]) ⟨hx, hb, hml, hown, hts⟩ (l_Mo_beginOf l dC dI X _ hc_1) (cwV 1 hts (gwV good_Mq (u_Mq_Mo _ k_Mo_124) (u_Mq_Mo _ k_Mo_125) (u_Mq_Mo _ k_Mo_490) (u_Mq_Mo _ k_Mo_0) (wcs (u_Mq_Mo _ k_Mo_126) (fun _ h => h))) rfl rfl rfl (by decide +kernel) ⟨Nat.le_of_ble_eq_true rfl, Nat.le_of_ble_eq_true rfl⟩) (pv_ofE (X.same _) (fun U z1 z2 => X.mono _ _ U hFc (hEw _ _ hS U z1 z2)) hP hK hD (va_recv hK hP (ci := 12) (q0 := 0) rfl rfl)) rfl rfl hl.1 rfl (lv_room (Nat.le_of_ble_eq_true rfl)) d_Mo_loadFolder_3 ⟨by decide, by decide⟩) hS (fun q _ h => hFc q h) hFc (fun r_ u t H locs ht hvm hw hB hz1 hk1 hS => ?_)
  rw [hw]
  obtain ⟨hP, -, hD⟩ := hB
  rw [ht] at hP
  have hD := lx_dj hD hFc
  obtain ⟨S_2, hc_2, h⟩ := lf_bE h
  have hFc := lx_free hD hS hA
  refine va_callv (va_runV (As := [.int r_1]) (rest := []) ⟨hx, hb, hml, hown, hts⟩ (l_Mo_walk l dC dI X _ hc_2) (cwV 1 hts (gwV good_Mq (u_Mq_Mo _ k_Mo_275) (u_Mq_Mo _ k_Mo_276) (u_Mq_Mo _ k_Mo_487) (u_Mq_Mo _ k_Mo_0) (wcs (u_Mq_Mo _ k_Mo_277) (fun _ h => h))) rfl rfl rfl (by decide +kernel) ⟨Nat.le_of_ble_eq_true rfl, Nat.le_of_ble_eq_true rfl⟩) (pv_ofE (X.same _) (fun U z1 z2 => X.mono _ _ U hFc (hEw _ _ hS U z1 z2)) hP hK hD (va_recv hK hP (ci := 12) (q0 := 0) rfl rfl)) rfl rfl hl.1 rfl (lv_room (Nat.le_of_ble_eq_true rfl)) d_Mo_loadFolder_6 ⟨by decide, by decide⟩) hS (fun q _ h => hFc q h) hFc (fun u t H locs ht hvm hw hB hz1 hk1 hS => ?_)
  obtain ⟨hP, -, hD⟩ := hB
  rw [ht] at hP
  have hD := lx_dj hD hFc
  refine lv_iconst (v := 0) hx hb d_Mo_loadFolder_9 (by decide) ?_
  refine lv_istore_n (lv' := [(2, .int 0), (0, .ref M.o), (1, .int p0)]) hx hb d_Mo_loadFolder_10 rfl hl (by decide) rfl (fun ls hl => ?_)
  exact hB_11 K 0 S_2 _ _ _ h hP hD hS (lv_sub hl [1, 0] rfl)
set_option maxHeartbeats 4000000 in
set_option maxRecDepth 100000 in
theorem l_Mo_feed (l : Launch) (dC : Nat → ClassId) (dI : Nat → Nat → Nat) {K : Nat} {M : MA} {E : (Nat → Prop) → State → Prop} (X : lx_X l dC dI K M E) (sz : Nat) {S S' : MS} {p0 : Int32} {p1 : Int32} {p2 : Int32} {p3 : Int32} {p4 : Int32} (h : f_Mo_feed K S p0 p1 p2 p3 p4 = some S') : Met l y_Mo_feed (.code y_Mo_feed b_Mo_feed 8 none :: V_Mq) ({ frames := 0, cells := 0, slots := 0, locals := 0 }) (va_Pc [.ref M.o, .int p0, .int p1, .int p2, .int p3, .int p4] (fun U => U.heap.size = sz ∧ at_ (dC, dI) (fun _ => True) (wM M S) (tM M) U ∧ E (va_A (wM M S) sz) U)) (va_Qv (fun (u : Unit) => True) (fun (u : Unit) t => at_ (dC, dI) (va_A (wM M S) sz) (wM M S') (tM M) t) (va_A (wM M S) sz)) 0 0 (va_A (wM M S) sz) := by
  refine Met.ofW (cc := b_Mo_feed) (maxL := 8) (ret := none) (by decide) rfl ?_
  intro p e s m args below meth c s₁ B hml hv
  obtain ⟨rfl, hsz, ⟨hP, hK, hD0⟩, hE⟩ := hv
  have hx := B.exec
  have hb := B.bytes
  have hr := B.returns
  have hts0 := atoms_spec (ws := .code y_Mo_feed b_Mo_feed 8 none :: V_Mq) B.pre
  have hts : ∀ w ∈ V_Mq, w.before ([.ref M.o, .int p0, .int p1, .int p2, .int p3, .int p4] : List Value).toArray s = true := fun w h => hts0 w (List.mem_cons_of_mem _ h)
  have hown : s.vm.findClass R_Mo = some m.cls := findClass_of_methodNamed B.named
  subst hsz
  have hD := hD0.self (sz := s.heap.size)
  generalize hAe : va_A (wM M S) s.heap.size = A at hD hE ⊢
  have hA : ∀ q : Nat, s.heap.size ≤ q → A q := fun q h => by rw [← hAe]; exact Or.inr h
  have hS : va_S A s.heap s.heap [] := va_S.rf
  have hP : va_P (dC, dI) classes (wM M S) s.heap := hP
  have hK : va_K (dC, dI) classes (tM M) s := hK
  have hEw : ∀ (H : Heap) (locs : List Loc), va_S A s.heap H locs → ∀ U : State, U.heap = H → s.WarmedH U.vm → E A U := fun H locs hS U hU hW => X.kept A s U H locs hE hS hU hW
  have hl := lv_entry ([.ref M.o, .int p0, .int p1, .int p2, .int p3, .int p4]) (n := 8) (Nat.le_of_ble_eq_true rfl)
  rw [lg_entry_eq]
  generalize (lg_sl ([.ref M.o, .int p0, .int p1, .int p2, .int p3, .int p4]) ++ List.replicate (8 - (lg_sl ([.ref M.o, .int p0, .int p1, .int p2, .int p3, .int p4])).length) Slot.unset).toArray = ls at hl ⊢
  have hl : lv_has ls 8 [(0, .ref M.o), (1, .int p0), (2, .int p1), (3, .int p2), (4, .int p3), (5, .int p4)] := hl
  refine qabs (fun Q hQ => ?_)
  have hB_61 : ∀ (rec_8 : Int32 → Int32 → Int32 → Int32 → Int32 → Int32 → MS → Option (MS)) (hr_8 : ∀ (y_1 : Int32) (y_2 : Int32) (y_3 : Int32) (y_4 : Int32) (y_5 : Int32) (y_6 : Int32) (S : MS) (H : Heap) (locs : List Loc) (ls : Array Slot), rec_8 y_1 y_2 y_3 y_4 y_5 y_6 S = some S' → va_P (dC, dI) classes (wM M S) H → va_D A (wM M S) → va_S A s.heap H locs → lv_has ls 8 [(0, .ref M.o), (1, .int y_1), (2, .int y_2), (3, .int y_3), (4, .int y_4), (5, .int y_5), (6, .int y_6)] → W p l e ({ frames := 0, cells := 0, slots := 0, locals := 0 }) s m ([.ref M.o, .int p0, .int p1, .int p2, .int p3, .int p4] : List Value).toArray below meth c H locs 0 0 Q (F0 m 8 ls [])), ∀ (y_1 : Int32) (y_2 : Int32) (y_3 : Int32) (y_4 : Int32) (y_5 : Int32) (y_6 : Int32) (z_0 : Int32) (S : MS) (H : Heap) (locs : List Loc) (ls : Array Slot), f_Mo_feed_61 K rec_8 y_1 y_2 y_3 y_4 y_5 y_6 z_0 S = some S' → va_P (dC, dI) classes (wM M S) H → va_D A (wM M S) → va_S A s.heap H locs → lv_has ls 8 [(0, .ref M.o), (1, .int y_1), (2, .int y_2), (3, .int y_3), (4, .int y_4), (5, .int y_5), (6, .int y_6)] → W p l e ({ frames := 0, cells := 0, slots := 0, locals := 0 }) s m ([.ref M.o, .int p0, .int p1, .int p2, .int p3, .int p4] : List Value).toArray below meth c H locs 0 0 Q (F0 m 61 ls [.int z_0]) := by
    intro rec_8 hr_8 y_1 y_2 y_3 y_4 y_5 y_6 z_0 S H locs ls h hP hD hS hl
    rw [f_Mo_feed_61] at h
    refine lv_istore (lv' := [(7, .int z_0), (0, .ref M.o), (1, .int y_1), (2, .int y_2), (3, .int y_3), (4, .int y_4), (5, .int y_5), (6, .int y_6)]) hx hb d_Mo_feed_61 hl (by decide) rfl (fun ls hl => ?_)
    refine lv_aload_n hx hb d_Mo_feed_63 rfl (lv_at hl 1 rfl) ?_
    refine va_get (D := (dC, dI)) (ci := 12) (v := .ref M.a_ready) (C := R_Mo) (T := F_Mo) (N := 66) hx hb hts (fun w h => u_Mq_Mo w (i_Mo w h)) hown hK hP 0 rfl rfl 4 (by decide) (hts _ (u_Mq_Mo _ k_Mo_11)) (fun _ h9 => h9) rfl d_Mo_feed_64 ?_
    refine lv_iload hx hb d_Mo_feed_67 (lv_at hl 7 rfl) ?_
    refine lv_iload hx hb d_Mo_feed_69 (lv_at hl 0 rfl) ?_
    refine lv_bipush (v := 24) hx hb d_Mo_feed_71 (by decide) ?_
    refine lv_bipush (v := 8) hx hb d_Mo_feed_73 (by decide) ?_
    refine lv_iload hx hb d_Mo_feed_75 (lv_at hl 7 rfl) ?_
    refine lv_iconst (v := 4) hx hb d_Mo_feed_77 (by decide) ?_
    refine lv_irem hx hb d_Mo_feed_78 (by decide) ?_
    refine lv_imul hx hb d_Mo_feed_79 ?_
    refine lv_isub hx hb d_Mo_feed_80 ?_
    refine lv_ishr hx hb d_Mo_feed_81 ?_
    refine lv_i2b hx hb d_Mo_feed_82 rfl ?_
    obtain ⟨g_8, h⟩ := lf_gE h
    refine va_bast hx hb hK hP hD hS 4 3 rfl rfl g_8 d_Mo_feed_83 (fun H locs hP hD hS => ?_)
    obtain ⟨S_9, eS_9, h⟩ := lf_lX h
    have hP := lx_newP eS_9 hP
    have hD := lx_newD eS_9 hD
    obtain ⟨x_10, ex_10, h⟩ := lf_lX h
    refine lv_iinc (v := x_10) (lv' := [(6, .int x_10), (7, .int z_0), (0, .ref M.o), (1, .int y_1), (2, .int y_2), (3, .int y_3), (4, .int y_4), (5, .int y_5)]) hx hb d_Mo_feed_84 hl (k := 7) rfl (by rw [ex_10]; rfl) (by decide) rfl (fun ls hl => ?_)
    refine lv_goto (tgt := 8) hx hb d_Mo_feed_87 (by decide) ?_
    exact hr_8 y_1 y_2 y_3 y_4 y_5 x_10 S_9 _ _ _ h hP hD hS (lv_sub hl [2, 3, 4, 5, 6, 7, 0] rfl)
  have hB_8 : ∀ (k : Nat), ∀ (y_1 : Int32) (y_2 : Int32) (y_3 : Int32) (y_4 : Int32) (y_5 : Int32) (y_6 : Int32) (S : MS) (H : Heap) (locs : List Loc) (ls : Array Slot), f_Mo_feed_8 K k y_1 y_2 y_3 y_4 y_5 y_6 S = some S' → va_P (dC, dI) classes (wM M S) H → va_D A (wM M S) → va_S A s.heap H locs → lv_has ls 8 [(0, .ref M.o), (1, .int y_1), (2, .int y_2), (3, .int y_3), (4, .int y_4), (5, .int y_5), (6, .int y_6)] → W p l e ({ frames := 0, cells := 0, slots := 0, locals := 0 }) s m ([.ref M.o, .int p0, .int p1, .int p2, .int p3, .int p4] : List Value).toArray below meth c H locs 0 0 Q (F0 m 8 ls []) := by
    intro k
    induction k with
    | zero => intro y_1 y_2 y_3 y_4 y_5 y_6 S H locs ls h; exact lf_no h
    | succ k hr_8 =>
      intro y_1 y_2 y_3 y_4 y_5 y_6 S H locs ls h hP hD hS hl
      rw [f_Mo_feed_8] at h
      refine lv_iload hx hb d_Mo_feed_8 (lv_at hl 6 rfl) ?_
      refine lv_bipush (v := 20) hx hb d_Mo_feed_10 (by decide) ?_
      refine lv_icmp_ge (tgt := 90) hx hb d_Mo_feed_12 (by decide) (fun c_2 => ?_) (fun c_2 => ?_)
      · have h := lf_t h c_2
        refine lv_aload_n hx hb d_Mo_feed_90 rfl (lv_at hl 0 rfl) ?_
        refine lv_iconst (v := 1) hx hb d_Mo_feed_91 (by decide) ?_
        refine va_put (D := (dC, dI)) (ci := 12) (v := .int 1) (ty := .boolean) (C := R_Mo) (T := F_Mo) (N := 66) hx hb hts (fun w h => u_Mq_Mo w (i_Mo w h)) t_Mo t_Mo_ok n_Mo hown hK hP hD hS 0 rfl rfl 8 (by decide) (hts _ (u_Mq_Mo _ k_Mo_15)) (fun _ h9 => h9) rfl (by decide +kernel) rfl rfl (Nat.le_of_ble_eq_true rfl) d_Mo_feed_92 (fun H locs hP hD hS => ?_)
        obtain ⟨S_3, eS_3, h⟩ := lf_lX h
        have hP := lx_newP eS_3 hP
        have hD := lx_newD eS_3 hD
        rw [hQ]
        have e2 : S_3 = S' := Option.some.inj h
        have hP := lx_newP e2.symm hP
        have hD := lx_newD e2.symm hD
        exact W.vret hx hb hr (fun t ht hW => ⟨⟨(), rfl, trivial, by rw [ht]; exact hP, va_K.moved hW.alike hK, hD⟩, hS.F ht⟩) hS.2.2 d_Mo_feed_95
      · have h := lf_f h c_2
        refine lv_iload hx hb d_Mo_feed_15 (lv_at hl 6 rfl) ?_
        refine lv_iconst (v := 4) hx hb d_Mo_feed_17 (by decide) ?_
        refine lv_icmp_ge (tgt := 25) hx hb d_Mo_feed_18 (by decide) (fun c_4 => ?_) (fun c_4 => ?_)
        · have h := lf_t h c_4
          refine lv_iload hx hb d_Mo_feed_25 (lv_at hl 6 rfl) ?_
          refine lv_bipush (v := 8) hx hb d_Mo_feed_27 (by decide) ?_
          refine lv_icmp_ge (tgt := 36) hx hb d_Mo_feed_29 (by decide) (fun c_5 => ?_) (fun c_5 => ?_)
          · have h := lf_t h c_5
            refine lv_iload hx hb d_Mo_feed_36 (lv_at hl 6 rfl) ?_
            refine lv_bipush (v := 12) hx hb d_Mo_feed_38 (by decide) ?_
            refine lv_icmp_ge (tgt := 47) hx hb d_Mo_feed_40 (by decide) (fun c_6 => ?_) (fun c_6 => ?_)
            · have h := lf_t h c_6
              refine lv_iload hx hb d_Mo_feed_47 (lv_at hl 6 rfl) ?_
              refine lv_bipush (v := 16) hx hb d_Mo_feed_49 (by decide) ?_
              refine lv_icmp_ge (tgt := 59) hx hb d_Mo_feed_51 (by decide) (fun c_7 => ?_) (fun c_7 => ?_)
              · have h := lf_t h c_7
                refine lv_iload hx hb d_Mo_feed_59 (lv_at hl 5 rfl) ?_
                exact hB_61 _ hr_8 y_1 y_2 y_3 y_4 y_5 y_6 y_5 S _ _ _ h hP hD hS (lv_sub hl [0, 1, 2, 3, 4, 5, 6] rfl)
              · have h := lf_f h c_7
                refine lv_iload hx hb d_Mo_feed_54 (lv_at hl 4 rfl) ?_
                refine lv_goto (tgt := 61) hx hb d_Mo_feed_56 (by decide) ?_
                exact hB_61 _ hr_8 y_1 y_2 y_3 y_4 y_5 y_6 y_4 S _ _ _ h hP hD hS (lv_sub hl [0, 1, 2, 3, 4, 5, 6] rfl)
            · have h := lf_f h c_6
              refine lv_iload_n hx hb d_Mo_feed_43 rfl (lv_at hl 3 rfl) ?_
              refine lv_goto (tgt := 61) hx hb d_Mo_feed_44 (by decide) ?_
              exact hB_61 _ hr_8 y_1 y_2 y_3 y_4 y_5 y_6 y_3 S _ _ _ h hP hD hS (lv_sub hl [0, 1, 2, 3, 4, 5, 6] rfl)
          · have h := lf_f h c_5
            refine lv_iload_n hx hb d_Mo_feed_32 rfl (lv_at hl 2 rfl) ?_
            refine lv_goto (tgt := 61) hx hb d_Mo_feed_33 (by decide) ?_
            exact hB_61 _ hr_8 y_1 y_2 y_3 y_4 y_5 y_6 y_2 S _ _ _ h hP hD hS (lv_sub hl [0, 1, 2, 3, 4, 5, 6] rfl)
        · have h := lf_f h c_4
          refine lv_iload_n hx hb d_Mo_feed_21 rfl (lv_at hl 1 rfl) ?_
          refine lv_goto (tgt := 61) hx hb d_Mo_feed_22 (by decide) ?_
          exact hB_61 _ hr_8 y_1 y_2 y_3 y_4 y_5 y_6 y_1 S _ _ _ h hP hD hS (lv_sub hl [0, 1, 2, 3, 4, 5, 6] rfl)
  rw [f_Mo_feed] at h
  refine lv_aload_n hx hb d_Mo_feed_0 rfl (lv_at hl 0 rfl) ?_
  refine lv_iconst (v := 0) hx hb d_Mo_feed_1 (by decide) ?_
  refine va_put (D := (dC, dI)) (ci := 12) (v := .int 0) (ty := .int) (C := R_Mo) (T := F_Mo) (N := 66) hx hb hts (fun w h => u_Mq_Mo w (i_Mo w h)) t_Mo t_Mo_ok n_Mo hown hK hP hD hS 0 rfl rfl 6 (by decide) (hts _ (u_Mq_Mo _ k_Mo_13)) (fun _ h9 => h9) rfl (by decide +kernel) rfl rfl (Nat.le_of_ble_eq_true rfl) d_Mo_feed_2 (fun H locs hP hD hS => ?_)
  obtain ⟨S_1, eS_1, h⟩ := lf_lX h
  have hP := lx_newP eS_1 hP
  have hD := lx_newD eS_1 hD
  refine lv_iconst (v := 0) hx hb d_Mo_feed_5 (by decide) ?_
  refine lv_istore (lv' := [(6, .int 0), (0, .ref M.o), (1, .int p0), (2, .int p1), (3, .int p2), (4, .int p3), (5, .int p4)]) hx hb d_Mo_feed_6 hl (by decide) rfl (fun ls hl => ?_)
  exact hB_8 K p0 p1 p2 p3 p4 0 S_1 _ _ _ h hP hD hS (lv_sub hl [1, 2, 3, 4, 5, 6, 0] rfl)
set_option maxHeartbeats 4000000 in
set_option maxRecDepth 100000 in
theorem l_Mo_end (l : Launch) (dC : Nat → ClassId) (dI : Nat → Nat → Nat) {K : Nat} {M : MA} {E : (Nat → Prop) → State → Prop} (X : lx_X l dC dI K M E) (sz : Nat) {S S' : MS} {p0 : Int32} {r : Int32} (h : f_Mo_end K S p0 = some (r, S')) : Met l y_Mo_end (.code y_Mo_end b_Mo_end 3 (some .int) :: V_Mq) ({ frames := 0, cells := 0, slots := 0, locals := 0 }) (va_Pc [.ref M.o, .int p0] (fun U => U.heap.size = sz ∧ at_ (dC, dI) (fun _ => True) (wM M S) (tM M) U ∧ E (va_A (wM M S) sz) U)) (va_Qi (fun (r_ : Int32) (u : Unit) => r_ = r) (fun (u : Unit) t => at_ (dC, dI) (va_A (wM M S) sz) (wM M S') (tM M) t) (va_A (wM M S) sz)) 0 0 (va_A (wM M S) sz) := by
  refine Met.ofW (cc := b_Mo_end) (maxL := 3) (ret := (some .int)) (by decide) rfl ?_
  intro p e s m args below meth c s₁ B hml hv
  obtain ⟨rfl, hsz, ⟨hP, hK, hD0⟩, hE⟩ := hv
  have hx := B.exec
  have hb := B.bytes
  have hr := B.returns
  have hts0 := atoms_spec (ws := .code y_Mo_end b_Mo_end 3 (some .int) :: V_Mq) B.pre
  have hts : ∀ w ∈ V_Mq, w.before ([.ref M.o, .int p0] : List Value).toArray s = true := fun w h => hts0 w (List.mem_cons_of_mem _ h)
  have hown : s.vm.findClass R_Mo = some m.cls := findClass_of_methodNamed B.named
  subst hsz
  have hD := hD0.self (sz := s.heap.size)
  generalize hAe : va_A (wM M S) s.heap.size = A at hD hE ⊢
  have hA : ∀ q : Nat, s.heap.size ≤ q → A q := fun q h => by rw [← hAe]; exact Or.inr h
  have hS : va_S A s.heap s.heap [] := va_S.rf
  have hP : va_P (dC, dI) classes (wM M S) s.heap := hP
  have hK : va_K (dC, dI) classes (tM M) s := hK
  have hEw : ∀ (H : Heap) (locs : List Loc), va_S A s.heap H locs → ∀ U : State, U.heap = H → s.WarmedH U.vm → E A U := fun H locs hS U hU hW => X.kept A s U H locs hE hS hU hW
  have hl := lv_entry ([.ref M.o, .int p0]) (n := 3) (Nat.le_of_ble_eq_true rfl)
  rw [lg_entry_eq]
  generalize (lg_sl ([.ref M.o, .int p0]) ++ List.replicate (3 - (lg_sl ([.ref M.o, .int p0])).length) Slot.unset).toArray = ls at hl ⊢
  have hl : lv_has ls 3 [(0, .ref M.o), (1, .int p0)] := hl
  refine qabs (fun Q hQ => ?_)
  have hB_27 : ∀ (S : MS) (H : Heap) (locs : List Loc) (ls : Array Slot), f_Mo_end_27 K S = some (r, S') → va_P (dC, dI) classes (wM M S) H → va_D A (wM M S) → va_S A s.heap H locs → lv_has ls 3 [] → W p l e ({ frames := 0, cells := 0, slots := 0, locals := 0 }) s m ([.ref M.o, .int p0] : List Value).toArray below meth c H locs 0 0 Q (F0 m 27 ls []) := by
    intro S H locs ls h hP hD hS hl
    rw [f_Mo_end_27] at h
    refine lv_iconst (v := (-1)) hx hb d_Mo_end_27 (by decide) ?_
    rw [hQ]
    have e1 : ((-1)) = r := congrArg Prod.fst (Option.some.inj h)
    have e2 : S = S' := congrArg Prod.snd (Option.some.inj h)
    have hP := lx_newP e2.symm hP
    have hD := lx_newD e2.symm hD
    exact W.iret (v := ((-1))) hx hb hr (fun t ht hW => ⟨⟨((-1)), (), rfl, e1, by rw [ht]; exact hP, va_K.moved hW.alike hK, hD⟩, hS.F ht⟩) hS.2.2 d_Mo_end_28
  have hB_61 : ∀ (rec_31 : Int32 → Int32 → MS → Option (Int32 × MS)) (hr_31 : ∀ (y_1 : Int32) (y_2 : Int32) (S : MS) (H : Heap) (locs : List Loc) (ls : Array Slot), rec_31 y_1 y_2 S = some (r, S') → va_P (dC, dI) classes (wM M S) H → va_D A (wM M S) → va_S A s.heap H locs → lv_has ls 3 [(0, .ref M.o), (1, .int y_1), (2, .int y_2)] → W p l e ({ frames := 0, cells := 0, slots := 0, locals := 0 }) s m ([.ref M.o, .int p0] : List Value).toArray below meth c H locs 0 0 Q (F0 m 31 ls [])), ∀ (y_1 : Int32) (y_2 : Int32) (z_1 : Int32) (z_2 : Int32) (S : MS) (H : Heap) (locs : List Loc) (ls : Array Slot), f_Mo_end_61 K rec_31 y_1 y_2 z_1 z_2 S = some (r, S') → va_P (dC, dI) classes (wM M S) H → va_D A (wM M S) → va_S A s.heap H locs → lv_has ls 3 [(0, .ref M.o), (1, .int y_1), (2, .int y_2)] → W p l e ({ frames := 0, cells := 0, slots := 0, locals := 0 }) s m ([.ref M.o, .int p0] : List Value).toArray below meth c H locs 0 0 Q (F0 m 61 ls [.int z_2, .int z_1, .ref M.a_tape]) := by
    intro rec_31 hr_31 y_1 y_2 z_1 z_2 S H locs ls h hP hD hS hl
    rw [f_Mo_end_61] at h
    obtain ⟨g_9, h⟩ := lf_gE h
    refine va_bast hx hb hK hP hD hS 3 2 rfl rfl g_9 d_Mo_end_61 (fun H locs hP hD hS => ?_)
    obtain ⟨S_10, eS_10, h⟩ := lf_lX h
    have hP := lx_newP eS_10 hP
    have hD := lx_newD eS_10 hD
    refine lv_aload_n hx hb d_Mo_end_62 rfl (lv_at hl 0 rfl) ?_
    refine lv_dup hx hb d_Mo_end_63 rfl ?_
    refine va_get (D := (dC, dI)) (ci := 12) (v := .int S_10.v_taped) (C := R_Mo) (T := F_Mo) (N := 66) hx hb hts (fun w h => u_Mq_Mo w (i_Mo w h)) hown hK hP 0 rfl rfl 5 (by decide) (hts _ (u_Mq_Mo _ k_Mo_12)) (fun _ h9 => h9) rfl d_Mo_end_64 ?_
    refine lv_iconst (v := 1) hx hb d_Mo_end_67 (by decide) ?_
    refine lv_iadd hx hb d_Mo_end_68 ?_
    refine va_put (D := (dC, dI)) (ci := 12) (v := .int (S_10.v_taped + 1)) (ty := .int) (C := R_Mo) (T := F_Mo) (N := 66) hx hb hts (fun w h => u_Mq_Mo w (i_Mo w h)) t_Mo t_Mo_ok n_Mo hown hK hP hD hS 0 rfl rfl 5 (by decide) (hts _ (u_Mq_Mo _ k_Mo_12)) (fun _ h9 => h9) rfl (by decide +kernel) rfl rfl (Nat.le_of_ble_eq_true rfl) d_Mo_end_69 (fun H locs hP hD hS => ?_)
    obtain ⟨S_11, eS_11, h⟩ := lf_lX h
    have hP := lx_newP eS_11 hP
    have hD := lx_newD eS_11 hD
    obtain ⟨x_12, ex_12, h⟩ := lf_lX h
    refine lv_iinc (v := x_12) (lv' := [(2, .int x_12), (0, .ref M.o), (1, .int y_1)]) hx hb d_Mo_end_72 hl (k := 2) rfl (by rw [ex_12]; rfl) (by decide) rfl (fun ls hl => ?_)
    refine lv_goto (tgt := 31) hx hb d_Mo_end_75 (by decide) ?_
    exact hr_31 y_1 x_12 S_11 _ _ _ h hP hD hS (lv_sub hl [1, 2, 0] rfl)
  have hB_31 : ∀ (k : Nat), ∀ (y_1 : Int32) (y_2 : Int32) (S : MS) (H : Heap) (locs : List Loc) (ls : Array Slot), f_Mo_end_31 K k y_1 y_2 S = some (r, S') → va_P (dC, dI) classes (wM M S) H → va_D A (wM M S) → va_S A s.heap H locs → lv_has ls 3 [(0, .ref M.o), (1, .int y_1), (2, .int y_2)] → W p l e ({ frames := 0, cells := 0, slots := 0, locals := 0 }) s m ([.ref M.o, .int p0] : List Value).toArray below meth c H locs 0 0 Q (F0 m 31 ls []) := by
    intro k
    induction k with
    | zero => intro y_1 y_2 S H locs ls h; exact lf_no h
    | succ k hr_31 =>
      intro y_1 y_2 S H locs ls h hP hD hS hl
      rw [f_Mo_end_31] at h
      refine lv_iload_n hx hb d_Mo_end_31 rfl (lv_at hl 2 rfl) ?_
      refine lv_iload_n hx hb d_Mo_end_32 rfl (lv_at hl 1 rfl) ?_
      refine lv_icmp_ge (tgt := 78) hx hb d_Mo_end_33 (by decide) (fun c_5 => ?_) (fun c_5 => ?_)
      · have h := lf_t h c_5
        refine lv_aload_n hx hb d_Mo_end_78 rfl (lv_at hl 0 rfl) ?_
        refine lv_iconst (v := 0) hx hb d_Mo_end_79 (by decide) ?_
        refine va_put (D := (dC, dI)) (ci := 12) (v := .int 0) (ty := .boolean) (C := R_Mo) (T := F_Mo) (N := 66) hx hb hts (fun w h => u_Mq_Mo w (i_Mo w h)) t_Mo t_Mo_ok n_Mo hown hK hP hD hS 0 rfl rfl 8 (by decide) (hts _ (u_Mq_Mo _ k_Mo_15)) (fun _ h9 => h9) rfl (by decide +kernel) rfl rfl (Nat.le_of_ble_eq_true rfl) d_Mo_end_80 (fun H locs hP hD hS => ?_)
        obtain ⟨S_6, eS_6, h⟩ := lf_lX h
        have hP := lx_newP eS_6 hP
        have hD := lx_newD eS_6 hD
        refine lv_aload_n hx hb d_Mo_end_83 rfl (lv_at hl 0 rfl) ?_
        refine va_get (D := (dC, dI)) (ci := 12) (v := .int S_6.v_taped) (C := R_Mo) (T := F_Mo) (N := 66) hx hb hts (fun w h => u_Mq_Mo w (i_Mo w h)) hown hK hP 0 rfl rfl 5 (by decide) (hts _ (u_Mq_Mo _ k_Mo_12)) (fun _ h9 => h9) rfl d_Mo_end_84 ?_
        rw [hQ]
        have e1 : S_6.v_taped = r := congrArg Prod.fst (Option.some.inj h)
        have e2 : S_6 = S' := congrArg Prod.snd (Option.some.inj h)
        have hP := lx_newP e2.symm hP
        have hD := lx_newD e2.symm hD
        exact W.iret (v := S_6.v_taped) hx hb hr (fun t ht hW => ⟨⟨S_6.v_taped, (), rfl, e1, by rw [ht]; exact hP, va_K.moved hW.alike hK, hD⟩, hS.F ht⟩) hS.2.2 d_Mo_end_87
      · have h := lf_f h c_5
        refine lv_aload_n hx hb d_Mo_end_36 rfl (lv_at hl 0 rfl) ?_
        refine va_get (D := (dC, dI)) (ci := 12) (v := .ref M.a_tape) (C := R_Mo) (T := F_Mo) (N := 66) hx hb hts (fun w h => u_Mq_Mo w (i_Mo w h)) hown hK hP 0 rfl rfl 3 (by decide) (hts _ (u_Mq_Mo _ k_Mo_10)) (fun _ h9 => h9) rfl d_Mo_end_37 ?_
        refine lv_aload_n hx hb d_Mo_end_40 rfl (lv_at hl 0 rfl) ?_
        refine va_get (D := (dC, dI)) (ci := 12) (v := .int S.v_taped) (C := R_Mo) (T := F_Mo) (N := 66) hx hb hts (fun w h => u_Mq_Mo w (i_Mo w h)) hown hK hP 0 rfl rfl 5 (by decide) (hts _ (u_Mq_Mo _ k_Mo_12)) (fun _ h9 => h9) rfl d_Mo_end_41 ?_
        refine lv_aload_n hx hb d_Mo_end_44 rfl (lv_at hl 0 rfl) ?_
        refine va_get (D := (dC, dI)) (ci := 12) (v := .int S.v_fed) (C := R_Mo) (T := F_Mo) (N := 66) hx hb hts (fun w h => u_Mq_Mo w (i_Mo w h)) hown hK hP 0 rfl rfl 8 (by decide) (hts _ (u_Mq_Mo _ k_Mo_15)) (fun _ h9 => h9) rfl d_Mo_end_45 ?_
        refine lv_if_eq (tgt := 60) hx hb d_Mo_end_48 (by decide) (fun c_7 => ?_) (fun c_7 => ?_)
        · have h := lf_t h c_7
          refine lv_iconst (v := 0) hx hb d_Mo_end_60 (by decide) ?_
          exact hB_61 _ hr_31 y_1 y_2 S.v_taped 0 S _ _ _ h hP hD hS (lv_sub hl [0, 1, 2] rfl)
        · have h := lf_f h c_7
          refine lv_aload_n hx hb d_Mo_end_51 rfl (lv_at hl 0 rfl) ?_
          refine va_get (D := (dC, dI)) (ci := 12) (v := .ref M.a_ready) (C := R_Mo) (T := F_Mo) (N := 66) hx hb hts (fun w h => u_Mq_Mo w (i_Mo w h)) hown hK hP 0 rfl rfl 4 (by decide) (hts _ (u_Mq_Mo _ k_Mo_11)) (fun _ h9 => h9) rfl d_Mo_end_52 ?_
          refine lv_iload_n hx hb d_Mo_end_55 rfl (lv_at hl 2 rfl) ?_
          obtain ⟨g_8, h⟩ := lf_gE h
          refine va_bald hx hb hK hP 4 3 rfl rfl g_8 d_Mo_end_56 ?_
          refine lv_goto (tgt := 61) hx hb d_Mo_end_57 (by decide) ?_
          exact hB_61 _ hr_31 y_1 y_2 S.v_taped (S.v_ready y_2.toNatClampNeg) S _ _ _ h hP hD hS (lv_sub hl [0, 1, 2] rfl)
  rw [f_Mo_end] at h
  refine lv_aload_n hx hb d_Mo_end_0 rfl (lv_at hl 0 rfl) ?_
  refine lv_iconst (v := 0) hx hb d_Mo_end_1 (by decide) ?_
  refine va_put (D := (dC, dI)) (ci := 12) (v := .int 0) (ty := .int) (C := R_Mo) (T := F_Mo) (N := 66) hx hb hts (fun w h => u_Mq_Mo w (i_Mo w h)) t_Mo t_Mo_ok n_Mo hown hK hP hD hS 0 rfl rfl 6 (by decide) (hts _ (u_Mq_Mo _ k_Mo_13)) (fun _ h9 => h9) rfl (by decide +kernel) rfl rfl (Nat.le_of_ble_eq_true rfl) d_Mo_end_2 (fun H locs hP hD hS => ?_)
  obtain ⟨S_1, eS_1, h⟩ := lf_lX h
  have hP := lx_newP eS_1 hP
  have hD := lx_newD eS_1 hD
  refine lv_iload_n hx hb d_Mo_end_5 rfl (lv_at hl 1 rfl) ?_
  refine lv_if_lt (tgt := 27) hx hb d_Mo_end_6 (by decide) (fun c_2 => ?_) (fun c_2 => ?_)
  · have h := lf_t h c_2
    exact hB_27 S_1 _ _ _ h hP hD hS (lv_sub hl [] rfl)
  · have h := lf_f h c_2
    refine lv_iload_n hx hb d_Mo_end_9 rfl (lv_at hl 1 rfl) ?_
    refine lv_bipush (v := 20) hx hb d_Mo_end_10 (by decide) ?_
    refine lv_icmp_gt (tgt := 27) hx hb d_Mo_end_12 (by decide) (fun c_3 => ?_) (fun c_3 => ?_)
    · have h := lf_t h c_3
      exact hB_27 S_1 _ _ _ h hP hD hS (lv_sub hl [] rfl)
    · have h := lf_f h c_3
      refine lv_aload_n hx hb d_Mo_end_15 rfl (lv_at hl 0 rfl) ?_
      refine va_get (D := (dC, dI)) (ci := 12) (v := .int S_1.v_taped) (C := R_Mo) (T := F_Mo) (N := 66) hx hb hts (fun w h => u_Mq_Mo w (i_Mo w h)) hown hK hP 0 rfl rfl 5 (by decide) (hts _ (u_Mq_Mo _ k_Mo_12)) (fun _ h9 => h9) rfl d_Mo_end_16 ?_
      refine lv_iload_n hx hb d_Mo_end_19 rfl (lv_at hl 1 rfl) ?_
      refine lv_iadd hx hb d_Mo_end_20 ?_
      refine lv_sipush (v := 4096) hx hb d_Mo_end_21 (by decide) ?_
      refine lv_icmp_le (tgt := 29) hx hb d_Mo_end_24 (by decide) (fun c_4 => ?_) (fun c_4 => ?_)
      · have h := lf_t h c_4
        refine lv_iconst (v := 0) hx hb d_Mo_end_29 (by decide) ?_
        refine lv_istore_n (lv' := [(2, .int 0), (0, .ref M.o), (1, .int p0)]) hx hb d_Mo_end_30 rfl hl (by decide) rfl (fun ls hl => ?_)
        exact hB_31 K p0 0 S_1 _ _ _ h hP hD hS (lv_sub hl [1, 2, 0] rfl)
      · have h := lf_f h c_4
        exact hB_27 S_1 _ _ _ h hP hD hS (lv_sub hl [] rfl)
set_option maxHeartbeats 4000000 in
set_option maxRecDepth 100000 in
theorem l_Mo_clear (l : Launch) (dC : Nat → ClassId) (dI : Nat → Nat → Nat) {K : Nat} {M : MA} {E : (Nat → Prop) → State → Prop} (X : lx_X l dC dI K M E) (sz : Nat) {S S' : MS} (h : f_Mo_clear K S = some S') : Met l y_Mo_clear (.code y_Mo_clear b_Mo_clear 1 none :: V_Mq) ({ frames := 0, cells := 0, slots := 0, locals := 0 }) (va_Pc [.ref M.o] (fun U => U.heap.size = sz ∧ at_ (dC, dI) (fun _ => True) (wM M S) (tM M) U ∧ E (va_A (wM M S) sz) U)) (va_Qv (fun (u : Unit) => True) (fun (u : Unit) t => at_ (dC, dI) (va_A (wM M S) sz) (wM M S') (tM M) t) (va_A (wM M S) sz)) 0 0 (va_A (wM M S) sz) := by
  refine Met.ofW (cc := b_Mo_clear) (maxL := 1) (ret := none) (by decide) rfl ?_
  intro p e s m args below meth c s₁ B hml hv
  obtain ⟨rfl, hsz, ⟨hP, hK, hD0⟩, hE⟩ := hv
  have hx := B.exec
  have hb := B.bytes
  have hr := B.returns
  have hts0 := atoms_spec (ws := .code y_Mo_clear b_Mo_clear 1 none :: V_Mq) B.pre
  have hts : ∀ w ∈ V_Mq, w.before ([.ref M.o] : List Value).toArray s = true := fun w h => hts0 w (List.mem_cons_of_mem _ h)
  have hown : s.vm.findClass R_Mo = some m.cls := findClass_of_methodNamed B.named
  subst hsz
  have hD := hD0.self (sz := s.heap.size)
  generalize hAe : va_A (wM M S) s.heap.size = A at hD hE ⊢
  have hA : ∀ q : Nat, s.heap.size ≤ q → A q := fun q h => by rw [← hAe]; exact Or.inr h
  have hS : va_S A s.heap s.heap [] := va_S.rf
  have hP : va_P (dC, dI) classes (wM M S) s.heap := hP
  have hK : va_K (dC, dI) classes (tM M) s := hK
  have hEw : ∀ (H : Heap) (locs : List Loc), va_S A s.heap H locs → ∀ U : State, U.heap = H → s.WarmedH U.vm → E A U := fun H locs hS U hU hW => X.kept A s U H locs hE hS hU hW
  have hl := lv_entry ([.ref M.o]) (n := 1) (Nat.le_of_ble_eq_true rfl)
  rw [lg_entry_eq]
  generalize (lg_sl ([.ref M.o]) ++ List.replicate (1 - (lg_sl ([.ref M.o])).length) Slot.unset).toArray = ls at hl ⊢
  have hl : lv_has ls 1 [(0, .ref M.o)] := hl
  refine qabs (fun Q hQ => ?_)
  rw [f_Mo_clear] at h
  refine lv_aload_n hx hb d_Mo_clear_0 rfl (lv_at hl 0 rfl) ?_
  refine lv_iconst (v := 0) hx hb d_Mo_clear_1 (by decide) ?_
  refine va_put (D := (dC, dI)) (ci := 12) (v := .int 0) (ty := .int) (C := R_Mo) (T := F_Mo) (N := 66) hx hb hts (fun w h => u_Mq_Mo w (i_Mo w h)) t_Mo t_Mo_ok n_Mo hown hK hP hD hS 0 rfl rfl 6 (by decide) (hts _ (u_Mq_Mo _ k_Mo_13)) (fun _ h9 => h9) rfl (by decide +kernel) rfl rfl (Nat.le_of_ble_eq_true rfl) d_Mo_clear_2 (fun H locs hP hD hS => ?_)
  obtain ⟨S_1, eS_1, h⟩ := lf_lX h
  have hP := lx_newP eS_1 hP
  have hD := lx_newD eS_1 hD
  refine lv_aload_n hx hb d_Mo_clear_5 rfl (lv_at hl 0 rfl) ?_
  refine lv_iconst (v := 0) hx hb d_Mo_clear_6 (by decide) ?_
  refine va_put (D := (dC, dI)) (ci := 12) (v := .int 0) (ty := .int) (C := R_Mo) (T := F_Mo) (N := 66) hx hb hts (fun w h => u_Mq_Mo w (i_Mo w h)) t_Mo t_Mo_ok n_Mo hown hK hP hD hS 0 rfl rfl 5 (by decide) (hts _ (u_Mq_Mo _ k_Mo_12)) (fun _ h9 => h9) rfl (by decide +kernel) rfl rfl (Nat.le_of_ble_eq_true rfl) d_Mo_clear_7 (fun H locs hP hD hS => ?_)
  obtain ⟨S_2, eS_2, h⟩ := lf_lX h
  have hP := lx_newP eS_2 hP
  have hD := lx_newD eS_2 hD
  rw [hQ]
  have e2 : S_2 = S' := Option.some.inj h
  have hP := lx_newP e2.symm hP
  have hD := lx_newD e2.symm hD
  exact W.vret hx hb hr (fun t ht hW => ⟨⟨(), rfl, trivial, by rw [ht]; exact hP, va_K.moved hW.alike hK, hD⟩, hS.F ht⟩) hS.2.2 d_Mo_clear_10
set_option maxHeartbeats 4000000 in
set_option maxRecDepth 100000 in
theorem l_Mo_taken (l : Launch) (dC : Nat → ClassId) (dI : Nat → Nat → Nat) {K : Nat} {M : MA} {E : (Nat → Prop) → State → Prop} (X : lx_X l dC dI K M E) (sz : Nat) {S S' : MS} {p0 : Int32} {r : Int32} (h : f_Mo_taken K S p0 = some (r, S')) : Met l y_Mo_taken (.code y_Mo_taken b_Mo_taken 2 (some .int) :: V_Mq) ({ frames := 0, cells := 0, slots := 0, locals := 0 }) (va_Pc [.ref M.o, .int p0] (fun U => U.heap.size = sz ∧ at_ (dC, dI) (fun _ => True) (wM M S) (tM M) U ∧ E (va_A (wM M S) sz) U)) (va_Qi (fun (r_ : Int32) (u : Unit) => r_ = r) (fun (u : Unit) t => at_ (dC, dI) (va_A (wM M S) sz) (wM M S') (tM M) t) (va_A (wM M S) sz)) 0 0 (va_A (wM M S) sz) := by
  refine Met.ofW (cc := b_Mo_taken) (maxL := 2) (ret := (some .int)) (by decide) rfl ?_
  intro p e s m args below meth c s₁ B hml hv
  obtain ⟨rfl, hsz, ⟨hP, hK, hD0⟩, hE⟩ := hv
  have hx := B.exec
  have hb := B.bytes
  have hr := B.returns
  have hts0 := atoms_spec (ws := .code y_Mo_taken b_Mo_taken 2 (some .int) :: V_Mq) B.pre
  have hts : ∀ w ∈ V_Mq, w.before ([.ref M.o, .int p0] : List Value).toArray s = true := fun w h => hts0 w (List.mem_cons_of_mem _ h)
  have hown : s.vm.findClass R_Mo = some m.cls := findClass_of_methodNamed B.named
  subst hsz
  have hD := hD0.self (sz := s.heap.size)
  generalize hAe : va_A (wM M S) s.heap.size = A at hD hE ⊢
  have hA : ∀ q : Nat, s.heap.size ≤ q → A q := fun q h => by rw [← hAe]; exact Or.inr h
  have hS : va_S A s.heap s.heap [] := va_S.rf
  have hP : va_P (dC, dI) classes (wM M S) s.heap := hP
  have hK : va_K (dC, dI) classes (tM M) s := hK
  have hEw : ∀ (H : Heap) (locs : List Loc), va_S A s.heap H locs → ∀ U : State, U.heap = H → s.WarmedH U.vm → E A U := fun H locs hS U hU hW => X.kept A s U H locs hE hS hU hW
  have hl := lv_entry ([.ref M.o, .int p0]) (n := 2) (Nat.le_of_ble_eq_true rfl)
  rw [lg_entry_eq]
  generalize (lg_sl ([.ref M.o, .int p0]) ++ List.replicate (2 - (lg_sl ([.ref M.o, .int p0])).length) Slot.unset).toArray = ls at hl ⊢
  have hl : lv_has ls 2 [(0, .ref M.o), (1, .int p0)] := hl
  refine qabs (fun Q hQ => ?_)
  rw [f_Mo_taken] at h
  refine lv_aload_n hx hb d_Mo_taken_0 rfl (lv_at hl 0 rfl) ?_
  refine va_get (D := (dC, dI)) (ci := 12) (v := .ref M.a_tape) (C := R_Mo) (T := F_Mo) (N := 66) hx hb hts (fun w h => u_Mq_Mo w (i_Mo w h)) hown hK hP 0 rfl rfl 3 (by decide) (hts _ (u_Mq_Mo _ k_Mo_10)) (fun _ h9 => h9) rfl d_Mo_taken_1 ?_
  refine lv_iload_n hx hb d_Mo_taken_4 rfl (lv_at hl 1 rfl) ?_
  obtain ⟨g_1, h⟩ := lf_gE h
  refine va_bald hx hb hK hP 3 2 rfl rfl g_1 d_Mo_taken_5 ?_
  refine lv_sipush (v := 255) hx hb d_Mo_taken_6 (by decide) ?_
  refine lv_iand hx hb d_Mo_taken_9 ?_
  rw [hQ]
  have e1 : ((S.v_tape p0.toNatClampNeg) &&& 255) = r := congrArg Prod.fst (Option.some.inj h)
  have e2 : S = S' := congrArg Prod.snd (Option.some.inj h)
  have hP := lx_newP e2.symm hP
  have hD := lx_newD e2.symm hD
  exact W.iret (v := ((S.v_tape p0.toNatClampNeg) &&& 255)) hx hb hr (fun t ht hW => ⟨⟨((S.v_tape p0.toNatClampNeg) &&& 255), (), rfl, e1, by rw [ht]; exact hP, va_K.moved hW.alike hK, hD⟩, hS.F ht⟩) hS.2.2 d_Mo_taken_10
set_option maxHeartbeats 4000000 in
set_option maxRecDepth 100000 in
theorem l_Mo_kind (l : Launch) (dC : Nat → ClassId) (dI : Nat → Nat → Nat) {K : Nat} {M : MA} {E : (Nat → Prop) → State → Prop} (X : lx_X l dC dI K M E) (sz : Nat) {S S' : MS} {r : Int32} (h : f_Mo_kind K S = some (r, S')) : Met l y_Mo_kind (.code y_Mo_kind b_Mo_kind 1 (some .int) :: V_Mq) ({ frames := 12, cells := 0, slots := 0, locals := 339 }) (va_Pc [.ref M.o] (fun U => U.heap.size = sz ∧ at_ (dC, dI) (fun _ => True) (wM M S) (tM M) U ∧ E (va_A (wM M S) sz) U)) (va_Qi (fun (r_ : Int32) (u : Unit) => r_ = r) (fun (u : Unit) t => at_ (dC, dI) (va_A (wM M S) sz) (wM M S') (tM M) t) (va_A (wM M S) sz)) 0 0 (va_A (wM M S) sz) := by
  refine Met.ofW (cc := b_Mo_kind) (maxL := 1) (ret := (some .int)) (by decide) rfl ?_
  intro p e s m args below meth c s₁ B hml hv
  obtain ⟨rfl, hsz, ⟨hP, hK, hD0⟩, hE⟩ := hv
  have hx := B.exec
  have hb := B.bytes
  have hr := B.returns
  have hts0 := atoms_spec (ws := .code y_Mo_kind b_Mo_kind 1 (some .int) :: V_Mq) B.pre
  have hts : ∀ w ∈ V_Mq, w.before ([.ref M.o] : List Value).toArray s = true := fun w h => hts0 w (List.mem_cons_of_mem _ h)
  have hown : s.vm.findClass R_Mo = some m.cls := findClass_of_methodNamed B.named
  subst hsz
  have hD := hD0.self (sz := s.heap.size)
  generalize hAe : va_A (wM M S) s.heap.size = A at hD hE ⊢
  have hA : ∀ q : Nat, s.heap.size ≤ q → A q := fun q h => by rw [← hAe]; exact Or.inr h
  have hS : va_S A s.heap s.heap [] := va_S.rf
  have hP : va_P (dC, dI) classes (wM M S) s.heap := hP
  have hK : va_K (dC, dI) classes (tM M) s := hK
  have hEw : ∀ (H : Heap) (locs : List Loc), va_S A s.heap H locs → ∀ U : State, U.heap = H → s.WarmedH U.vm → E A U := fun H locs hS U hU hW => X.kept A s U H locs hE hS hU hW
  have hl := lv_entry ([.ref M.o]) (n := 1) (Nat.le_of_ble_eq_true rfl)
  rw [lg_entry_eq]
  generalize (lg_sl ([.ref M.o]) ++ List.replicate (1 - (lg_sl ([.ref M.o])).length) Slot.unset).toArray = ls at hl ⊢
  have hl : lv_has ls 1 [(0, .ref M.o)] := hl
  refine qabs (fun Q hQ => ?_)
  rw [f_Mo_kind] at h
  refine lv_aload_n hx hb d_Mo_kind_0 rfl (lv_at hl 0 rfl) ?_
  refine lv_iconst (v := 0) hx hb d_Mo_kind_1 (by decide) ?_
  refine va_put (D := (dC, dI)) (ci := 12) (v := .int 0) (ty := .int) (C := R_Mo) (T := F_Mo) (N := 66) hx hb hts (fun w h => u_Mq_Mo w (i_Mo w h)) t_Mo t_Mo_ok n_Mo hown hK hP hD hS 0 rfl rfl 6 (by decide) (hts _ (u_Mq_Mo _ k_Mo_13)) (fun _ h9 => h9) rfl (by decide +kernel) rfl rfl (Nat.le_of_ble_eq_true rfl) d_Mo_kind_2 (fun H locs hP hD hS => ?_)
  obtain ⟨S_1, eS_1, h⟩ := lf_lX h
  have hP := lx_newP eS_1 hP
  have hD := lx_newD eS_1 hD
  refine lv_aload_n hx hb d_Mo_kind_5 rfl (lv_at hl 0 rfl) ?_
  obtain ⟨S_2, hc_2, h⟩ := lf_bE h
  have hFc := lx_free hD hS hA
  refine va_callv (va_runV (As := []) (rest := []) ⟨hx, hb, hml, hown, hts⟩ (l_Mo_look l dC dI X _ hc_2) (cwV 0 hts (gwV good_Mq (u_Mq_Mo _ k_Mo_88) (u_Mq_Mo _ k_Mo_89) (u_Mq_Mo _ k_Mo_492) (u_Mq_Mo _ k_Mo_0) (wcs (u_Mq_Mo _ k_Mo_90) (fun _ h => h))) rfl rfl rfl (by decide +kernel) ⟨Nat.le_of_ble_eq_true rfl, Nat.le_of_ble_eq_true rfl⟩) (pv_ofE (X.same _) (fun U z1 z2 => X.mono _ _ U hFc (hEw _ _ hS U z1 z2)) hP hK hD (va_recv hK hP (ci := 12) (q0 := 0) rfl rfl)) rfl rfl hl.1 rfl (lv_room (Nat.le_of_ble_eq_true rfl)) d_Mo_kind_6 ⟨by decide, by decide⟩) hS (fun q _ h => hFc q h) hFc (fun u t H locs ht hvm hw hB hz1 hk1 hS => ?_)
  obtain ⟨hP, -, hD⟩ := hB
  rw [ht] at hP
  have hD := lx_dj hD hFc
  refine lv_aload_n hx hb d_Mo_kind_9 rfl (lv_at hl 0 rfl) ?_
  refine va_get (D := (dC, dI)) (ci := 12) (v := .int S_2.v_turned) (C := R_Mo) (T := F_Mo) (N := 66) hx hb hts (fun w h => u_Mq_Mo w (i_Mo w h)) hown hK hP 0 rfl rfl 9 (by decide) (hts _ (u_Mq_Mo _ k_Mo_16)) (fun _ h9 => h9) rfl d_Mo_kind_10 ?_
  refine lv_if_eq (tgt := 20) hx hb d_Mo_kind_13 (by decide) (fun c_3 => ?_) (fun c_3 => ?_)
  · have h := lf_t h c_3
    refine lv_aload_n hx hb d_Mo_kind_20 rfl (lv_at hl 0 rfl) ?_
    refine va_get (D := (dC, dI)) (ci := 12) (v := .int S_2.v_fault) (C := R_Mo) (T := F_Mo) (N := 66) hx hb hts (fun w h => u_Mq_Mo w (i_Mo w h)) hown hK hP 0 rfl rfl 20 (by decide) (hts _ (u_Mq_Mo _ k_Mo_27)) (fun _ h9 => h9) rfl d_Mo_kind_21 ?_
    refine lv_iconst (v := 1) hx hb d_Mo_kind_24 (by decide) ?_
    refine lv_icmp_ne (tgt := 32) hx hb d_Mo_kind_25 (by decide) (fun c_4 => ?_) (fun c_4 => ?_)
    · have h := lf_f h c_4
      refine lv_iconst (v := 1) hx hb d_Mo_kind_32 (by decide) ?_
      rw [hQ]
      have e1 : (1 : Int32) = r := congrArg Prod.fst (Option.some.inj h)
      have e2 : S_2 = S' := congrArg Prod.snd (Option.some.inj h)
      have hP := lx_newP e2.symm hP
      have hD := lx_newD e2.symm hD
      exact W.iret (v := 1) hx hb hr (fun t ht hW => ⟨⟨1, (), rfl, e1, by rw [ht]; exact hP, va_K.moved hW.alike hK, hD⟩, hS.F ht⟩) hS.2.2 d_Mo_kind_33
    · have h := lf_t h c_4
      refine lv_iconst (v := 0) hx hb d_Mo_kind_28 (by decide) ?_
      refine lv_goto (tgt := 33) hx hb d_Mo_kind_29 (by decide) ?_
      rw [hQ]
      have e1 : (0 : Int32) = r := congrArg Prod.fst (Option.some.inj h)
      have e2 : S_2 = S' := congrArg Prod.snd (Option.some.inj h)
      have hP := lx_newP e2.symm hP
      have hD := lx_newD e2.symm hD
      exact W.iret (v := 0) hx hb hr (fun t ht hW => ⟨⟨0, (), rfl, e1, by rw [ht]; exact hP, va_K.moved hW.alike hK, hD⟩, hS.F ht⟩) hS.2.2 d_Mo_kind_33
  · have h := lf_f h c_3
    refine lv_iconst (v := 2) hx hb d_Mo_kind_16 (by decide) ?_
    refine lv_goto (tgt := 33) hx hb d_Mo_kind_17 (by decide) ?_
    rw [hQ]
    have e1 : (2 : Int32) = r := congrArg Prod.fst (Option.some.inj h)
    have e2 : S_2 = S' := congrArg Prod.snd (Option.some.inj h)
    have hP := lx_newP e2.symm hP
    have hD := lx_newD e2.symm hD
    exact W.iret (v := 2) hx hb hr (fun t ht hW => ⟨⟨2, (), rfl, e1, by rw [ht]; exact hP, va_K.moved hW.alike hK, hD⟩, hS.F ht⟩) hS.2.2 d_Mo_kind_33
set_option maxHeartbeats 4000000 in
set_option maxRecDepth 100000 in
theorem l_Mo_fault (l : Launch) (dC : Nat → ClassId) (dI : Nat → Nat → Nat) {K : Nat} {M : MA} {E : (Nat → Prop) → State → Prop} (X : lx_X l dC dI K M E) (sz : Nat) {S S' : MS} {r : Int32} (h : f_Mo_fault K S = some (r, S')) : Met l y_Mo_fault (.code y_Mo_fault b_Mo_fault 1 (some .int) :: V_Mq) ({ frames := 12, cells := 0, slots := 0, locals := 339 }) (va_Pc [.ref M.o] (fun U => U.heap.size = sz ∧ at_ (dC, dI) (fun _ => True) (wM M S) (tM M) U ∧ E (va_A (wM M S) sz) U)) (va_Qi (fun (r_ : Int32) (u : Unit) => r_ = r) (fun (u : Unit) t => at_ (dC, dI) (va_A (wM M S) sz) (wM M S') (tM M) t) (va_A (wM M S) sz)) 0 0 (va_A (wM M S) sz) := by
  refine Met.ofW (cc := b_Mo_fault) (maxL := 1) (ret := (some .int)) (by decide) rfl ?_
  intro p e s m args below meth c s₁ B hml hv
  obtain ⟨rfl, hsz, ⟨hP, hK, hD0⟩, hE⟩ := hv
  have hx := B.exec
  have hb := B.bytes
  have hr := B.returns
  have hts0 := atoms_spec (ws := .code y_Mo_fault b_Mo_fault 1 (some .int) :: V_Mq) B.pre
  have hts : ∀ w ∈ V_Mq, w.before ([.ref M.o] : List Value).toArray s = true := fun w h => hts0 w (List.mem_cons_of_mem _ h)
  have hown : s.vm.findClass R_Mo = some m.cls := findClass_of_methodNamed B.named
  subst hsz
  have hD := hD0.self (sz := s.heap.size)
  generalize hAe : va_A (wM M S) s.heap.size = A at hD hE ⊢
  have hA : ∀ q : Nat, s.heap.size ≤ q → A q := fun q h => by rw [← hAe]; exact Or.inr h
  have hS : va_S A s.heap s.heap [] := va_S.rf
  have hP : va_P (dC, dI) classes (wM M S) s.heap := hP
  have hK : va_K (dC, dI) classes (tM M) s := hK
  have hEw : ∀ (H : Heap) (locs : List Loc), va_S A s.heap H locs → ∀ U : State, U.heap = H → s.WarmedH U.vm → E A U := fun H locs hS U hU hW => X.kept A s U H locs hE hS hU hW
  have hl := lv_entry ([.ref M.o]) (n := 1) (Nat.le_of_ble_eq_true rfl)
  rw [lg_entry_eq]
  generalize (lg_sl ([.ref M.o]) ++ List.replicate (1 - (lg_sl ([.ref M.o])).length) Slot.unset).toArray = ls at hl ⊢
  have hl : lv_has ls 1 [(0, .ref M.o)] := hl
  refine qabs (fun Q hQ => ?_)
  rw [f_Mo_fault] at h
  refine lv_aload_n hx hb d_Mo_fault_0 rfl (lv_at hl 0 rfl) ?_
  refine lv_iconst (v := 0) hx hb d_Mo_fault_1 (by decide) ?_
  refine va_put (D := (dC, dI)) (ci := 12) (v := .int 0) (ty := .int) (C := R_Mo) (T := F_Mo) (N := 66) hx hb hts (fun w h => u_Mq_Mo w (i_Mo w h)) t_Mo t_Mo_ok n_Mo hown hK hP hD hS 0 rfl rfl 6 (by decide) (hts _ (u_Mq_Mo _ k_Mo_13)) (fun _ h9 => h9) rfl (by decide +kernel) rfl rfl (Nat.le_of_ble_eq_true rfl) d_Mo_fault_2 (fun H locs hP hD hS => ?_)
  obtain ⟨S_1, eS_1, h⟩ := lf_lX h
  have hP := lx_newP eS_1 hP
  have hD := lx_newD eS_1 hD
  refine lv_aload_n hx hb d_Mo_fault_5 rfl (lv_at hl 0 rfl) ?_
  obtain ⟨S_2, hc_2, h⟩ := lf_bE h
  have hFc := lx_free hD hS hA
  refine va_callv (va_runV (As := []) (rest := []) ⟨hx, hb, hml, hown, hts⟩ (l_Mo_look l dC dI X _ hc_2) (cwV 0 hts (gwV good_Mq (u_Mq_Mo _ k_Mo_88) (u_Mq_Mo _ k_Mo_89) (u_Mq_Mo _ k_Mo_492) (u_Mq_Mo _ k_Mo_0) (wcs (u_Mq_Mo _ k_Mo_90) (fun _ h => h))) rfl rfl rfl (by decide +kernel) ⟨Nat.le_of_ble_eq_true rfl, Nat.le_of_ble_eq_true rfl⟩) (pv_ofE (X.same _) (fun U z1 z2 => X.mono _ _ U hFc (hEw _ _ hS U z1 z2)) hP hK hD (va_recv hK hP (ci := 12) (q0 := 0) rfl rfl)) rfl rfl hl.1 rfl (lv_room (Nat.le_of_ble_eq_true rfl)) d_Mo_fault_6 ⟨by decide, by decide⟩) hS (fun q _ h => hFc q h) hFc (fun u t H locs ht hvm hw hB hz1 hk1 hS => ?_)
  obtain ⟨hP, -, hD⟩ := hB
  rw [ht] at hP
  have hD := lx_dj hD hFc
  refine lv_aload_n hx hb d_Mo_fault_9 rfl (lv_at hl 0 rfl) ?_
  refine va_get (D := (dC, dI)) (ci := 12) (v := .int S_2.v_turned) (C := R_Mo) (T := F_Mo) (N := 66) hx hb hts (fun w h => u_Mq_Mo w (i_Mo w h)) hown hK hP 0 rfl rfl 9 (by decide) (hts _ (u_Mq_Mo _ k_Mo_16)) (fun _ h9 => h9) rfl d_Mo_fault_10 ?_
  refine lv_if_eq (tgt := 20) hx hb d_Mo_fault_13 (by decide) (fun c_3 => ?_) (fun c_3 => ?_)
  · have h := lf_t h c_3
    refine lv_aload_n hx hb d_Mo_fault_20 rfl (lv_at hl 0 rfl) ?_
    refine va_get (D := (dC, dI)) (ci := 12) (v := .int S_2.v_fault) (C := R_Mo) (T := F_Mo) (N := 66) hx hb hts (fun w h => u_Mq_Mo w (i_Mo w h)) hown hK hP 0 rfl rfl 20 (by decide) (hts _ (u_Mq_Mo _ k_Mo_27)) (fun _ h9 => h9) rfl d_Mo_fault_21 ?_
    rw [hQ]
    have e1 : S_2.v_fault = r := congrArg Prod.fst (Option.some.inj h)
    have e2 : S_2 = S' := congrArg Prod.snd (Option.some.inj h)
    have hP := lx_newP e2.symm hP
    have hD := lx_newD e2.symm hD
    exact W.iret (v := S_2.v_fault) hx hb hr (fun t ht hW => ⟨⟨S_2.v_fault, (), rfl, e1, by rw [ht]; exact hP, va_K.moved hW.alike hK, hD⟩, hS.F ht⟩) hS.2.2 d_Mo_fault_24
  · have h := lf_f h c_3
    refine lv_iconst (v := 0) hx hb d_Mo_fault_16 (by decide) ?_
    refine lv_goto (tgt := 24) hx hb d_Mo_fault_17 (by decide) ?_
    rw [hQ]
    have e1 : (0 : Int32) = r := congrArg Prod.fst (Option.some.inj h)
    have e2 : S_2 = S' := congrArg Prod.snd (Option.some.inj h)
    have hP := lx_newP e2.symm hP
    have hD := lx_newD e2.symm hD
    exact W.iret (v := 0) hx hb hr (fun t ht hW => ⟨⟨0, (), rfl, e1, by rw [ht]; exact hP, va_K.moved hW.alike hK, hD⟩, hS.F ht⟩) hS.2.2 d_Mo_fault_24
set_option maxHeartbeats 4000000 in
set_option maxRecDepth 100000 in
theorem l_Mo_changed (l : Launch) (dC : Nat → ClassId) (dI : Nat → Nat → Nat) {K : Nat} {M : MA} {E : (Nat → Prop) → State → Prop} (X : lx_X l dC dI K M E) (sz : Nat) {S S' : MS} (h : f_Mo_changed K S = some S') : Met l y_Mo_changed (.code y_Mo_changed b_Mo_changed 1 none :: V_Mq) ({ frames := 0, cells := 0, slots := 0, locals := 0 }) (va_Pc [.ref M.o] (fun U => U.heap.size = sz ∧ at_ (dC, dI) (fun _ => True) (wM M S) (tM M) U ∧ E (va_A (wM M S) sz) U)) (va_Qv (fun (u : Unit) => True) (fun (u : Unit) t => at_ (dC, dI) (va_A (wM M S) sz) (wM M S') (tM M) t) (va_A (wM M S) sz)) 0 0 (va_A (wM M S) sz) := by
  refine Met.ofW (cc := b_Mo_changed) (maxL := 1) (ret := none) (by decide) rfl ?_
  intro p e s m args below meth c s₁ B hml hv
  obtain ⟨rfl, hsz, ⟨hP, hK, hD0⟩, hE⟩ := hv
  have hx := B.exec
  have hb := B.bytes
  have hr := B.returns
  have hts0 := atoms_spec (ws := .code y_Mo_changed b_Mo_changed 1 none :: V_Mq) B.pre
  have hts : ∀ w ∈ V_Mq, w.before ([.ref M.o] : List Value).toArray s = true := fun w h => hts0 w (List.mem_cons_of_mem _ h)
  have hown : s.vm.findClass R_Mo = some m.cls := findClass_of_methodNamed B.named
  subst hsz
  have hD := hD0.self (sz := s.heap.size)
  generalize hAe : va_A (wM M S) s.heap.size = A at hD hE ⊢
  have hA : ∀ q : Nat, s.heap.size ≤ q → A q := fun q h => by rw [← hAe]; exact Or.inr h
  have hS : va_S A s.heap s.heap [] := va_S.rf
  have hP : va_P (dC, dI) classes (wM M S) s.heap := hP
  have hK : va_K (dC, dI) classes (tM M) s := hK
  have hEw : ∀ (H : Heap) (locs : List Loc), va_S A s.heap H locs → ∀ U : State, U.heap = H → s.WarmedH U.vm → E A U := fun H locs hS U hU hW => X.kept A s U H locs hE hS hU hW
  have hl := lv_entry ([.ref M.o]) (n := 1) (Nat.le_of_ble_eq_true rfl)
  rw [lg_entry_eq]
  generalize (lg_sl ([.ref M.o]) ++ List.replicate (1 - (lg_sl ([.ref M.o])).length) Slot.unset).toArray = ls at hl ⊢
  have hl : lv_has ls 1 [(0, .ref M.o)] := hl
  refine qabs (fun Q hQ => ?_)
  rw [f_Mo_changed] at h
  refine lv_aload_n hx hb d_Mo_changed_0 rfl (lv_at hl 0 rfl) ?_
  refine lv_iconst (v := 0) hx hb d_Mo_changed_1 (by decide) ?_
  refine va_put (D := (dC, dI)) (ci := 12) (v := .int 0) (ty := .boolean) (C := R_Mo) (T := F_Mo) (N := 66) hx hb hts (fun w h => u_Mq_Mo w (i_Mo w h)) t_Mo t_Mo_ok n_Mo hown hK hP hD hS 0 rfl rfl 19 (by decide) (hts _ (u_Mq_Mo _ k_Mo_26)) (fun _ h9 => h9) rfl (by decide +kernel) rfl rfl (Nat.le_of_ble_eq_true rfl) d_Mo_changed_2 (fun H locs hP hD hS => ?_)
  obtain ⟨S_1, eS_1, h⟩ := lf_lX h
  have hP := lx_newP eS_1 hP
  have hD := lx_newD eS_1 hD
  rw [hQ]
  have e2 : S_1 = S' := Option.some.inj h
  have hP := lx_newP e2.symm hP
  have hD := lx_newD e2.symm hD
  exact W.vret hx hb hr (fun t ht hW => ⟨⟨(), rfl, trivial, by rw [ht]; exact hP, va_K.moved hW.alike hK, hD⟩, hS.F ht⟩) hS.2.2 d_Mo_changed_5
set_option maxHeartbeats 4000000 in
set_option maxRecDepth 100000 in
theorem l_Mo_poke (l : Launch) (dC : Nat → ClassId) (dI : Nat → Nat → Nat) {K : Nat} {M : MA} {E : (Nat → Prop) → State → Prop} (X : lx_X l dC dI K M E) (sz : Nat) {S S' : MS} {p0 : Int32} {p1 : Int32} {p2 : Int32} {r : Int32} (h : f_Mo_poke K S p0 p1 p2 = some (r, S')) : Met l y_Mo_poke (.code y_Mo_poke b_Mo_poke 4 (some .boolean) :: V_Mq) ({ frames := 1, cells := 0, slots := 0, locals := 20 }) (va_Pc [.ref M.o, .int p0, .int p1, .int p2] (fun U => U.heap.size = sz ∧ at_ (dC, dI) (fun _ => True) (wM M S) (tM M) U ∧ E (va_A (wM M S) sz) U)) (va_Qi (fun (r_ : Int32) (u : Unit) => r_ = r) (fun (u : Unit) t => at_ (dC, dI) (va_A (wM M S) sz) (wM M S') (tM M) t) (va_A (wM M S) sz)) 0 0 (va_A (wM M S) sz) := by
  refine Met.ofW (cc := b_Mo_poke) (maxL := 4) (ret := (some .boolean)) (by decide) rfl ?_
  intro p e s m args below meth c s₁ B hml hv
  obtain ⟨rfl, hsz, ⟨hP, hK, hD0⟩, hE⟩ := hv
  have hx := B.exec
  have hb := B.bytes
  have hr := B.returns
  have hts0 := atoms_spec (ws := .code y_Mo_poke b_Mo_poke 4 (some .boolean) :: V_Mq) B.pre
  have hts : ∀ w ∈ V_Mq, w.before ([.ref M.o, .int p0, .int p1, .int p2] : List Value).toArray s = true := fun w h => hts0 w (List.mem_cons_of_mem _ h)
  have hown : s.vm.findClass R_Mo = some m.cls := findClass_of_methodNamed B.named
  subst hsz
  have hD := hD0.self (sz := s.heap.size)
  generalize hAe : va_A (wM M S) s.heap.size = A at hD hE ⊢
  have hA : ∀ q : Nat, s.heap.size ≤ q → A q := fun q h => by rw [← hAe]; exact Or.inr h
  have hS : va_S A s.heap s.heap [] := va_S.rf
  have hP : va_P (dC, dI) classes (wM M S) s.heap := hP
  have hK : va_K (dC, dI) classes (tM M) s := hK
  have hEw : ∀ (H : Heap) (locs : List Loc), va_S A s.heap H locs → ∀ U : State, U.heap = H → s.WarmedH U.vm → E A U := fun H locs hS U hU hW => X.kept A s U H locs hE hS hU hW
  have hl := lv_entry ([.ref M.o, .int p0, .int p1, .int p2]) (n := 4) (Nat.le_of_ble_eq_true rfl)
  rw [lg_entry_eq]
  generalize (lg_sl ([.ref M.o, .int p0, .int p1, .int p2]) ++ List.replicate (4 - (lg_sl ([.ref M.o, .int p0, .int p1, .int p2])).length) Slot.unset).toArray = ls at hl ⊢
  have hl : lv_has ls 4 [(0, .ref M.o), (1, .int p0), (2, .int p1), (3, .int p2)] := hl
  refine qabs (fun Q hQ => ?_)
  have hB_46 : ∀ (S : MS) (H : Heap) (locs : List Loc) (ls : Array Slot), f_Mo_poke_46 K S = some (r, S') → va_P (dC, dI) classes (wM M S) H → va_D A (wM M S) → va_S A s.heap H locs → lv_has ls 4 [] → W p l e ({ frames := 1, cells := 0, slots := 0, locals := 20 }) s m ([.ref M.o, .int p0, .int p1, .int p2] : List Value).toArray below meth c H locs 0 0 Q (F0 m 46 ls []) := by
    intro S H locs ls h hP hD hS hl
    rw [f_Mo_poke_46] at h
    refine lv_iconst (v := 0) hx hb d_Mo_poke_46 (by decide) ?_
    rw [hQ]
    have e1 : (0 : Int32) = r := congrArg Prod.fst (Option.some.inj h)
    have e2 : S = S' := congrArg Prod.snd (Option.some.inj h)
    have hP := lx_newP e2.symm hP
    have hD := lx_newD e2.symm hD
    exact W.zret (v := 0) hx hb hr rfl (fun t ht hW => ⟨⟨0, (), rfl, e1, by rw [ht]; exact hP, va_K.moved hW.alike hK, hD⟩, hS.F ht⟩) hS.2.2 d_Mo_poke_47
  rw [f_Mo_poke] at h
  refine lv_aload_n hx hb d_Mo_poke_0 rfl (lv_at hl 0 rfl) ?_
  refine lv_iconst (v := 0) hx hb d_Mo_poke_1 (by decide) ?_
  refine va_put (D := (dC, dI)) (ci := 12) (v := .int 0) (ty := .int) (C := R_Mo) (T := F_Mo) (N := 66) hx hb hts (fun w h => u_Mq_Mo w (i_Mo w h)) t_Mo t_Mo_ok n_Mo hown hK hP hD hS 0 rfl rfl 6 (by decide) (hts _ (u_Mq_Mo _ k_Mo_13)) (fun _ h9 => h9) rfl (by decide +kernel) rfl rfl (Nat.le_of_ble_eq_true rfl) d_Mo_poke_2 (fun H locs hP hD hS => ?_)
  obtain ⟨S_1, eS_1, h⟩ := lf_lX h
  have hP := lx_newP eS_1 hP
  have hD := lx_newD eS_1 hD
  refine lv_aload_n hx hb d_Mo_poke_5 rfl (lv_at hl 0 rfl) ?_
  refine va_get (D := (dC, dI)) (ci := 12) (v := .int S_1.v_ran) (C := R_Mo) (T := F_Mo) (N := 66) hx hb hts (fun w h => u_Mq_Mo w (i_Mo w h)) hown hK hP 0 rfl rfl 10 (by decide) (hts _ (u_Mq_Mo _ k_Mo_17)) (fun _ h9 => h9) rfl d_Mo_poke_6 ?_
  refine lv_if_ne (tgt := 46) hx hb d_Mo_poke_9 (by decide) (fun c_2 => ?_) (fun c_2 => ?_)
  · have h := lf_f h c_2
    exact hB_46 S_1 _ _ _ h hP hD hS (lv_sub hl [] rfl)
  · have h := lf_t h c_2
    refine lv_iload_n hx hb d_Mo_poke_12 rfl (lv_at hl 1 rfl) ?_
    refine lv_if_lt (tgt := 46) hx hb d_Mo_poke_13 (by decide) (fun c_3 => ?_) (fun c_3 => ?_)
    · have h := lf_t h c_3
      exact hB_46 S_1 _ _ _ h hP hD hS (lv_sub hl [] rfl)
    · have h := lf_f h c_3
      refine lv_iload_n hx hb d_Mo_poke_16 rfl (lv_at hl 1 rfl) ?_
      refine lv_aload_n hx hb d_Mo_poke_17 rfl (lv_at hl 0 rfl) ?_
      refine va_get (D := (dC, dI)) (ci := 12) (v := .int S_1.v_n) (C := R_Mo) (T := F_Mo) (N := 66) hx hb hts (fun w h => u_Mq_Mo w (i_Mo w h)) hown hK hP 0 rfl rfl 0 (by decide) (hts _ (u_Mq_Mo _ k_Mo_7)) (fun _ h9 => h9) rfl d_Mo_poke_18 ?_
      refine lv_icmp_ge (tgt := 46) hx hb d_Mo_poke_21 (by decide) (fun c_4 => ?_) (fun c_4 => ?_)
      · have h := lf_t h c_4
        exact hB_46 S_1 _ _ _ h hP hD hS (lv_sub hl [] rfl)
      · have h := lf_f h c_4
        refine lv_iload_n hx hb d_Mo_poke_24 rfl (lv_at hl 1 rfl) ?_
        refine lv_iconst (v := 2) hx hb d_Mo_poke_25 (by decide) ?_
        refine lv_icmp_eq (tgt := 46) hx hb d_Mo_poke_26 (by decide) (fun c_5 => ?_) (fun c_5 => ?_)
        · have h := lf_t h c_5
          exact hB_46 S_1 _ _ _ h hP hD hS (lv_sub hl [] rfl)
        · have h := lf_f h c_5
          refine lv_iload_n hx hb d_Mo_poke_29 rfl (lv_at hl 1 rfl) ?_
          refine lv_bipush (v := 7) hx hb d_Mo_poke_30 (by decide) ?_
          refine lv_icmp_eq (tgt := 46) hx hb d_Mo_poke_32 (by decide) (fun c_6 => ?_) (fun c_6 => ?_)
          · have h := lf_t h c_6
            exact hB_46 S_1 _ _ _ h hP hD hS (lv_sub hl [] rfl)
          · have h := lf_f h c_6
            refine lv_iload_n hx hb d_Mo_poke_35 rfl (lv_at hl 2 rfl) ?_
            refine lv_if_lt (tgt := 46) hx hb d_Mo_poke_36 (by decide) (fun c_7 => ?_) (fun c_7 => ?_)
            · have h := lf_t h c_7
              exact hB_46 S_1 _ _ _ h hP hD hS (lv_sub hl [] rfl)
            · have h := lf_f h c_7
              refine lv_iload_n hx hb d_Mo_poke_39 rfl (lv_at hl 2 rfl) ?_
              refine lv_sipush (v := 511) hx hb d_Mo_poke_40 (by decide) ?_
              refine lv_icmp_le (tgt := 48) hx hb d_Mo_poke_43 (by decide) (fun c_8 => ?_) (fun c_8 => ?_)
              · have h := lf_t h c_8
                refine lv_aload_n hx hb d_Mo_poke_48 rfl (lv_at hl 0 rfl) ?_
                refine va_get (D := (dC, dI)) (ci := 12) (v := .ref M.a_disk) (C := R_Mo) (T := F_Mo) (N := 66) hx hb hts (fun w h => u_Mq_Mo w (i_Mo w h)) hown hK hP 0 rfl rfl 1 (by decide) (hts _ (u_Mq_Mo _ k_Mo_8)) (fun _ h9 => h9) rfl d_Mo_poke_49 ?_
                refine lv_sipush (v := 512) hx hb d_Mo_poke_52 (by decide) ?_
                refine lv_iload_n hx hb d_Mo_poke_55 rfl (lv_at hl 1 rfl) ?_
                refine lv_imul hx hb d_Mo_poke_56 ?_
                refine lv_iload_n hx hb d_Mo_poke_57 rfl (lv_at hl 2 rfl) ?_
                refine lv_iadd hx hb d_Mo_poke_58 ?_
                refine lv_iload_n hx hb d_Mo_poke_59 rfl (lv_at hl 3 rfl) ?_
                refine lv_i2b hx hb d_Mo_poke_60 rfl ?_
                obtain ⟨g_9, h⟩ := lf_gE h
                refine va_bast hx hb hK hP hD hS 1 0 rfl rfl g_9 d_Mo_poke_61 (fun H locs hP hD hS => ?_)
                obtain ⟨S_10, eS_10, h⟩ := lf_lX h
                have hP := lx_newP eS_10 hP
                have hD := lx_newD eS_10 hD
                refine lv_aload_n hx hb d_Mo_poke_62 rfl (lv_at hl 0 rfl) ?_
                obtain ⟨S_11, hc_11, h⟩ := lf_bE h
                have hFc := lx_free hD hS hA
                refine va_callv (va_runV (As := []) (rest := []) ⟨hx, hb, hml, hown, hts⟩ (l_Mo_changed l dC dI X _ hc_11) (cwV 0 hts (gwV good_Mq (u_Mq_Mo _ k_Mo_205) (u_Mq_Mo _ k_Mo_206) (u_Mq_Mo _ k_Mo_506) (u_Mq_Mo _ k_Mo_0) (wcs (u_Mq_Mo _ k_Mo_207) (fun _ h => h))) rfl rfl rfl (by decide +kernel) ⟨Nat.le_of_ble_eq_true rfl, Nat.le_of_ble_eq_true rfl⟩) (pv_ofE (X.same _) (fun U z1 z2 => X.mono _ _ U hFc (hEw _ _ hS U z1 z2)) hP hK hD (va_recv hK hP (ci := 12) (q0 := 0) rfl rfl)) rfl rfl hl.1 rfl (lv_room (Nat.le_of_ble_eq_true rfl)) d_Mo_poke_63 ⟨by decide, by decide⟩) hS (fun q _ h => hFc q h) hFc (fun u t H locs ht hvm hw hB hz1 hk1 hS => ?_)
                obtain ⟨hP, -, hD⟩ := hB
                rw [ht] at hP
                have hD := lx_dj hD hFc
                refine lv_aload_n hx hb d_Mo_poke_66 rfl (lv_at hl 0 rfl) ?_
                refine lv_iconst (v := 0) hx hb d_Mo_poke_67 (by decide) ?_
                refine va_put (D := (dC, dI)) (ci := 12) (v := .int 0) (ty := .int) (C := R_Mo) (T := F_Mo) (N := 66) hx hb hts (fun w h => u_Mq_Mo w (i_Mo w h)) t_Mo t_Mo_ok n_Mo hown hK hP hD hS 0 rfl rfl 18 (by decide) (hts _ (u_Mq_Mo _ k_Mo_25)) (fun _ h9 => h9) rfl (by decide +kernel) rfl rfl (Nat.le_of_ble_eq_true rfl) d_Mo_poke_68 (fun H locs hP hD hS => ?_)
                obtain ⟨S_12, eS_12, h⟩ := lf_lX h
                have hP := lx_newP eS_12 hP
                have hD := lx_newD eS_12 hD
                refine lv_iconst (v := 1) hx hb d_Mo_poke_71 (by decide) ?_
                rw [hQ]
                have e1 : (1 : Int32) = r := congrArg Prod.fst (Option.some.inj h)
                have e2 : S_12 = S' := congrArg Prod.snd (Option.some.inj h)
                have hP := lx_newP e2.symm hP
                have hD := lx_newD e2.symm hD
                exact W.zret (v := 1) hx hb hr rfl (fun t ht hW => ⟨⟨1, (), rfl, e1, by rw [ht]; exact hP, va_K.moved hW.alike hK, hD⟩, hS.F ht⟩) hS.2.2 d_Mo_poke_72
              · have h := lf_f h c_8
                exact hB_46 S_1 _ _ _ h hP hD hS (lv_sub hl [] rfl)
set_option maxHeartbeats 4000000 in
set_option maxRecDepth 100000 in
theorem l_Mo_byteAt (l : Launch) (dC : Nat → ClassId) (dI : Nat → Nat → Nat) {K : Nat} {M : MA} {E : (Nat → Prop) → State → Prop} (X : lx_X l dC dI K M E) (sz : Nat) {S S' : MS} {p0 : Int32} {p1 : Int32} {r : Int32} (h : f_Mo_byteAt K S p0 p1 = some (r, S')) : Met l y_Mo_byteAt (.code y_Mo_byteAt b_Mo_byteAt 4 (some .int) :: V_Mq) ({ frames := 12, cells := 0, slots := 0, locals := 339 }) (va_Pc [.ref M.o, .int p0, .int p1] (fun U => U.heap.size = sz ∧ at_ (dC, dI) (fun _ => True) (wM M S) (tM M) U ∧ E (va_A (wM M S) sz) U)) (va_Qi (fun (r_ : Int32) (u : Unit) => r_ = r) (fun (u : Unit) t => at_ (dC, dI) (va_A (wM M S) sz) (wM M S') (tM M) t) (va_A (wM M S) sz)) 0 0 (va_A (wM M S) sz) := by
  refine Met.ofW (cc := b_Mo_byteAt) (maxL := 4) (ret := (some .int)) (by decide) rfl ?_
  intro p e s m args below meth c s₁ B hml hv
  obtain ⟨rfl, hsz, ⟨hP, hK, hD0⟩, hE⟩ := hv
  have hx := B.exec
  have hb := B.bytes
  have hr := B.returns
  have hts0 := atoms_spec (ws := .code y_Mo_byteAt b_Mo_byteAt 4 (some .int) :: V_Mq) B.pre
  have hts : ∀ w ∈ V_Mq, w.before ([.ref M.o, .int p0, .int p1] : List Value).toArray s = true := fun w h => hts0 w (List.mem_cons_of_mem _ h)
  have hown : s.vm.findClass R_Mo = some m.cls := findClass_of_methodNamed B.named
  subst hsz
  have hD := hD0.self (sz := s.heap.size)
  generalize hAe : va_A (wM M S) s.heap.size = A at hD hE ⊢
  have hA : ∀ q : Nat, s.heap.size ≤ q → A q := fun q h => by rw [← hAe]; exact Or.inr h
  have hS : va_S A s.heap s.heap [] := va_S.rf
  have hP : va_P (dC, dI) classes (wM M S) s.heap := hP
  have hK : va_K (dC, dI) classes (tM M) s := hK
  have hEw : ∀ (H : Heap) (locs : List Loc), va_S A s.heap H locs → ∀ U : State, U.heap = H → s.WarmedH U.vm → E A U := fun H locs hS U hU hW => X.kept A s U H locs hE hS hU hW
  have hl := lv_entry ([.ref M.o, .int p0, .int p1]) (n := 4) (Nat.le_of_ble_eq_true rfl)
  rw [lg_entry_eq]
  generalize (lg_sl ([.ref M.o, .int p0, .int p1]) ++ List.replicate (4 - (lg_sl ([.ref M.o, .int p0, .int p1])).length) Slot.unset).toArray = ls at hl ⊢
  have hl : lv_has ls 4 [(0, .ref M.o), (1, .int p0), (2, .int p1)] := hl
  refine qabs (fun Q hQ => ?_)
  have hB_28 : ∀ (S : MS) (H : Heap) (locs : List Loc) (ls : Array Slot), f_Mo_byteAt_28 K S = some (r, S') → va_P (dC, dI) classes (wM M S) H → va_D A (wM M S) → va_S A s.heap H locs → lv_has ls 4 [] → W p l e ({ frames := 12, cells := 0, slots := 0, locals := 339 }) s m ([.ref M.o, .int p0, .int p1] : List Value).toArray below meth c H locs 0 0 Q (F0 m 28 ls []) := by
    intro S H locs ls h hP hD hS hl
    rw [f_Mo_byteAt_28] at h
    refine lv_iconst (v := (-1)) hx hb d_Mo_byteAt_28 (by decide) ?_
    rw [hQ]
    have e1 : ((-1)) = r := congrArg Prod.fst (Option.some.inj h)
    have e2 : S = S' := congrArg Prod.snd (Option.some.inj h)
    have hP := lx_newP e2.symm hP
    have hD := lx_newD e2.symm hD
    exact W.iret (v := ((-1))) hx hb hr (fun t ht hW => ⟨⟨((-1)), (), rfl, e1, by rw [ht]; exact hP, va_K.moved hW.alike hK, hD⟩, hS.F ht⟩) hS.2.2 d_Mo_byteAt_29
  have hB_138 : ∀ (S : MS) (H : Heap) (locs : List Loc) (ls : Array Slot), f_Mo_byteAt_138 K S = some (r, S') → va_P (dC, dI) classes (wM M S) H → va_D A (wM M S) → va_S A s.heap H locs → lv_has ls 4 [] → W p l e ({ frames := 12, cells := 0, slots := 0, locals := 339 }) s m ([.ref M.o, .int p0, .int p1] : List Value).toArray below meth c H locs 0 0 Q (F0 m 138 ls []) := by
    intro S H locs ls h hP hD hS hl
    rw [f_Mo_byteAt_138] at h
    refine lv_iconst (v := (-1)) hx hb d_Mo_byteAt_138 (by decide) ?_
    rw [hQ]
    have e1 : ((-1)) = r := congrArg Prod.fst (Option.some.inj h)
    have e2 : S = S' := congrArg Prod.snd (Option.some.inj h)
    have hP := lx_newP e2.symm hP
    have hD := lx_newD e2.symm hD
    exact W.iret (v := ((-1))) hx hb hr (fun t ht hW => ⟨⟨((-1)), (), rfl, e1, by rw [ht]; exact hP, va_K.moved hW.alike hK, hD⟩, hS.F ht⟩) hS.2.2 d_Mo_byteAt_139
  have hB_140 : ∀ (y_1 : Int32) (y_2 : Int32) (S : MS) (H : Heap) (locs : List Loc) (ls : Array Slot), f_Mo_byteAt_140 K y_1 y_2 S = some (r, S') → va_P (dC, dI) classes (wM M S) H → va_D A (wM M S) → va_S A s.heap H locs → lv_has ls 4 [(0, .ref M.o), (1, .int y_1), (2, .int y_2)] → W p l e ({ frames := 12, cells := 0, slots := 0, locals := 339 }) s m ([.ref M.o, .int p0, .int p1] : List Value).toArray below meth c H locs 0 0 Q (F0 m 140 ls []) := by
    intro y_1 y_2 S H locs ls h hP hD hS hl
    rw [f_Mo_byteAt_140] at h
    refine lv_aload_n hx hb d_Mo_byteAt_140 rfl (lv_at hl 0 rfl) ?_
    refine lv_sipush (v := 512) hx hb d_Mo_byteAt_141 (by decide) ?_
    refine lv_iload_n hx hb d_Mo_byteAt_144 rfl (lv_at hl 1 rfl) ?_
    refine lv_imul hx hb d_Mo_byteAt_145 ?_
    refine lv_iload_n hx hb d_Mo_byteAt_146 rfl (lv_at hl 2 rfl) ?_
    refine lv_iadd hx hb d_Mo_byteAt_147 ?_
    obtain ⟨r_21, S_21, hc_21, h⟩ := lf_cE h
    have hFc := lx_free hD hS hA
    refine va_calli (va_runV (As := [.int ((512 * y_1) + y_2)]) (rest := []) ⟨hx, hb, hml, hown, hts⟩ (l_Mo_one l dC dI X _ hc_21) (cwV 1 hts (gwV good_Mq (u_Mq_Mo _ k_Mo_94) (u_Mq_Mo _ k_Mo_95) (u_Mq_Mo _ k_Mo_475) (u_Mq_Mo _ k_Mo_0) (wcs (u_Mq_Mo _ k_Mo_96) (fun _ h => h))) rfl rfl rfl (by decide +kernel) ⟨Nat.le_of_ble_eq_true rfl, Nat.le_of_ble_eq_true rfl⟩) (pv_ofE (X.same _) (fun U z1 z2 => X.mono _ _ U hFc (hEw _ _ hS U z1 z2)) hP hK hD (va_recv hK hP (ci := 12) (q0 := 0) rfl rfl)) rfl rfl hl.1 rfl (lv_room (Nat.le_of_ble_eq_true rfl)) d_Mo_byteAt_148 ⟨by decide, by decide⟩) hS (fun q _ h => hFc q h) hFc (fun r_ u t H locs ht hvm hw hB hz1 hk1 hS => ?_)
    rw [hw]
    obtain ⟨hP, -, hD⟩ := hB
    rw [ht] at hP
    have hD := lx_dj hD hFc
    rw [hQ]
    have e1 : r_21 = r := congrArg Prod.fst (Option.some.inj h)
    have e2 : S_21 = S' := congrArg Prod.snd (Option.some.inj h)
    have hP := lx_newP e2.symm hP
    have hD := lx_newD e2.symm hD
    exact W.iret (v := r_21) hx hb hr (fun t ht hW => ⟨⟨r_21, (), rfl, e1, by rw [ht]; exact hP, va_K.moved hW.alike hK, hD⟩, hS.F ht⟩) hS.2.2 d_Mo_byteAt_151
  rw [f_Mo_byteAt] at h
  refine lv_aload_n hx hb d_Mo_byteAt_0 rfl (lv_at hl 0 rfl) ?_
  refine lv_iconst (v := 0) hx hb d_Mo_byteAt_1 (by decide) ?_
  refine va_put (D := (dC, dI)) (ci := 12) (v := .int 0) (ty := .int) (C := R_Mo) (T := F_Mo) (N := 66) hx hb hts (fun w h => u_Mq_Mo w (i_Mo w h)) t_Mo t_Mo_ok n_Mo hown hK hP hD hS 0 rfl rfl 6 (by decide) (hts _ (u_Mq_Mo _ k_Mo_13)) (fun _ h9 => h9) rfl (by decide +kernel) rfl rfl (Nat.le_of_ble_eq_true rfl) d_Mo_byteAt_2 (fun H locs hP hD hS => ?_)
  obtain ⟨S_1, eS_1, h⟩ := lf_lX h
  have hP := lx_newP eS_1 hP
  have hD := lx_newD eS_1 hD
  refine lv_iload_n hx hb d_Mo_byteAt_5 rfl (lv_at hl 1 rfl) ?_
  refine lv_if_lt (tgt := 28) hx hb d_Mo_byteAt_6 (by decide) (fun c_2 => ?_) (fun c_2 => ?_)
  · have h := lf_t h c_2
    exact hB_28 S_1 _ _ _ h hP hD hS (lv_sub hl [] rfl)
  · have h := lf_f h c_2
    refine lv_iload_n hx hb d_Mo_byteAt_9 rfl (lv_at hl 1 rfl) ?_
    refine lv_aload_n hx hb d_Mo_byteAt_10 rfl (lv_at hl 0 rfl) ?_
    refine va_get (D := (dC, dI)) (ci := 12) (v := .int S_1.v_n) (C := R_Mo) (T := F_Mo) (N := 66) hx hb hts (fun w h => u_Mq_Mo w (i_Mo w h)) hown hK hP 0 rfl rfl 0 (by decide) (hts _ (u_Mq_Mo _ k_Mo_7)) (fun _ h9 => h9) rfl d_Mo_byteAt_11 ?_
    refine lv_icmp_ge (tgt := 28) hx hb d_Mo_byteAt_14 (by decide) (fun c_3 => ?_) (fun c_3 => ?_)
    · have h := lf_t h c_3
      exact hB_28 S_1 _ _ _ h hP hD hS (lv_sub hl [] rfl)
    · have h := lf_f h c_3
      refine lv_iload_n hx hb d_Mo_byteAt_17 rfl (lv_at hl 2 rfl) ?_
      refine lv_if_lt (tgt := 28) hx hb d_Mo_byteAt_18 (by decide) (fun c_4 => ?_) (fun c_4 => ?_)
      · have h := lf_t h c_4
        exact hB_28 S_1 _ _ _ h hP hD hS (lv_sub hl [] rfl)
      · have h := lf_f h c_4
        refine lv_iload_n hx hb d_Mo_byteAt_21 rfl (lv_at hl 2 rfl) ?_
        refine lv_sipush (v := 511) hx hb d_Mo_byteAt_22 (by decide) ?_
        refine lv_icmp_le (tgt := 30) hx hb d_Mo_byteAt_25 (by decide) (fun c_5 => ?_) (fun c_5 => ?_)
        · have h := lf_t h c_5
          refine lv_aload_n hx hb d_Mo_byteAt_30 rfl (lv_at hl 0 rfl) ?_
          obtain ⟨S_6, hc_6, h⟩ := lf_bE h
          have hFc := lx_free hD hS hA
          refine va_callv (va_runV (As := []) (rest := []) ⟨hx, hb, hml, hown, hts⟩ (l_Mo_look l dC dI X _ hc_6) (cwV 0 hts (gwV good_Mq (u_Mq_Mo _ k_Mo_88) (u_Mq_Mo _ k_Mo_89) (u_Mq_Mo _ k_Mo_492) (u_Mq_Mo _ k_Mo_0) (wcs (u_Mq_Mo _ k_Mo_90) (fun _ h => h))) rfl rfl rfl (by decide +kernel) ⟨Nat.le_of_ble_eq_true rfl, Nat.le_of_ble_eq_true rfl⟩) (pv_ofE (X.same _) (fun U z1 z2 => X.mono _ _ U hFc (hEw _ _ hS U z1 z2)) hP hK hD (va_recv hK hP (ci := 12) (q0 := 0) rfl rfl)) rfl rfl hl.1 rfl (lv_room (Nat.le_of_ble_eq_true rfl)) d_Mo_byteAt_31 ⟨by decide, by decide⟩) hS (fun q _ h => hFc q h) hFc (fun u t H locs ht hvm hw hB hz1 hk1 hS => ?_)
          obtain ⟨hP, -, hD⟩ := hB
          rw [ht] at hP
          have hD := lx_dj hD hFc
          refine lv_aload_n hx hb d_Mo_byteAt_34 rfl (lv_at hl 0 rfl) ?_
          refine va_get (D := (dC, dI)) (ci := 12) (v := .int S_6.v_turned) (C := R_Mo) (T := F_Mo) (N := 66) hx hb hts (fun w h => u_Mq_Mo w (i_Mo w h)) hown hK hP 0 rfl rfl 9 (by decide) (hts _ (u_Mq_Mo _ k_Mo_16)) (fun _ h9 => h9) rfl d_Mo_byteAt_35 ?_
          refine lv_if_eq (tgt := 92) hx hb d_Mo_byteAt_38 (by decide) (fun c_7 => ?_) (fun c_7 => ?_)
          · have h := lf_t h c_7
            refine lv_aload_n hx hb d_Mo_byteAt_92 rfl (lv_at hl 0 rfl) ?_
            refine va_get (D := (dC, dI)) (ci := 12) (v := .int S_6.v_fault) (C := R_Mo) (T := F_Mo) (N := 66) hx hb hts (fun w h => u_Mq_Mo w (i_Mo w h)) hown hK hP 0 rfl rfl 20 (by decide) (hts _ (u_Mq_Mo _ k_Mo_27)) (fun _ h9 => h9) rfl d_Mo_byteAt_93 ?_
            refine lv_iconst (v := 1) hx hb d_Mo_byteAt_96 (by decide) ?_
            refine lv_icmp_eq (tgt := 140) hx hb d_Mo_byteAt_97 (by decide) (fun c_8 => ?_) (fun c_8 => ?_)
            · have h := lf_t h c_8
              exact hB_140 p0 p1 S_6 _ _ _ h hP hD hS (lv_sub hl [0, 1, 2] rfl)
            · have h := lf_f h c_8
              refine lv_iload_n hx hb d_Mo_byteAt_100 rfl (lv_at hl 1 rfl) ?_
              refine lv_aload_n hx hb d_Mo_byteAt_101 rfl (lv_at hl 0 rfl) ?_
              refine va_get (D := (dC, dI)) (ci := 12) (v := .int S_6.v_a) (C := R_Mo) (T := F_Mo) (N := 66) hx hb hts (fun w h => u_Mq_Mo w (i_Mo w h)) hown hK hP 0 rfl rfl 16 (by decide) (hts _ (u_Mq_Mo _ k_Mo_23)) (fun _ h9 => h9) rfl d_Mo_byteAt_102 ?_
              refine lv_icmp_lt (tgt := 140) hx hb d_Mo_byteAt_105 (by decide) (fun c_9 => ?_) (fun c_9 => ?_)
              · have h := lf_t h c_9
                exact hB_140 p0 p1 S_6 _ _ _ h hP hD hS (lv_sub hl [0, 1, 2] rfl)
              · have h := lf_f h c_9
                refine lv_iconst (v := 2) hx hb d_Mo_byteAt_108 (by decide) ?_
                refine lv_iload_n hx hb d_Mo_byteAt_109 rfl (lv_at hl 1 rfl) ?_
                refine lv_aload_n hx hb d_Mo_byteAt_110 rfl (lv_at hl 0 rfl) ?_
                refine va_get (D := (dC, dI)) (ci := 12) (v := .int S_6.v_a) (C := R_Mo) (T := F_Mo) (N := 66) hx hb hts (fun w h => u_Mq_Mo w (i_Mo w h)) hown hK hP 0 rfl rfl 16 (by decide) (hts _ (u_Mq_Mo _ k_Mo_23)) (fun _ h9 => h9) rfl d_Mo_byteAt_111 ?_
                refine lv_isub hx hb d_Mo_byteAt_114 ?_
                refine lv_aload_n hx hb d_Mo_byteAt_115 rfl (lv_at hl 0 rfl) ?_
                refine va_get (D := (dC, dI)) (ci := 12) (v := .int S_6.v_c) (C := R_Mo) (T := F_Mo) (N := 66) hx hb hts (fun w h => u_Mq_Mo w (i_Mo w h)) hown hK hP 0 rfl rfl 11 (by decide) (hts _ (u_Mq_Mo _ k_Mo_18)) (fun _ h9 => h9) rfl d_Mo_byteAt_116 ?_
                obtain ⟨g_10, h⟩ := lf_gE h
                refine lv_idiv hx hb d_Mo_byteAt_119 g_10 ?_
                refine lv_iadd hx hb d_Mo_byteAt_120 ?_
                refine lv_topi (fun x_11 ex_11 => ?_)
                have h := lf_lE h ex_11
                refine lv_istore_n (lv' := [(3, .int x_11), (0, .ref M.o), (1, .int p0), (2, .int p1)]) hx hb d_Mo_byteAt_121 rfl hl (by decide) rfl (fun ls hl => ?_)
                refine lv_aload_n hx hb d_Mo_byteAt_122 rfl (lv_at hl 1 rfl) ?_
                refine lv_iload_n hx hb d_Mo_byteAt_123 rfl (lv_at hl 0 rfl) ?_
                obtain ⟨r_12, S_12, hc_12, h⟩ := lf_cE h
                have hFc := lx_free hD hS hA
                refine va_calli (va_runV (As := [.int x_11]) (rest := []) ⟨hx, hb, hml, hown, hts⟩ (l_Mo_isCluster l dC dI X _ hc_12) (cwV 1 hts (gwV good_Mq (u_Mq_Mo _ k_Mo_104) (u_Mq_Mo _ k_Mo_105) (u_Mq_Mo _ k_Mo_482) (u_Mq_Mo _ k_Mo_0) (wcs (u_Mq_Mo _ k_Mo_106) (fun _ h => h))) rfl rfl rfl (by decide +kernel) ⟨Nat.le_of_ble_eq_true rfl, Nat.le_of_ble_eq_true rfl⟩) (pv_ofE (X.same _) (fun U z1 z2 => X.mono _ _ U hFc (hEw _ _ hS U z1 z2)) hP hK hD (va_recv hK hP (ci := 12) (q0 := 0) rfl rfl)) rfl rfl hl.1 rfl (lv_room (Nat.le_of_ble_eq_true rfl)) d_Mo_byteAt_124 ⟨by decide, by decide⟩) hS (fun q _ h => hFc q h) hFc (fun r_ u t H locs ht hvm hw hB hz1 hk1 hS => ?_)
                rw [hw]
                obtain ⟨hP, -, hD⟩ := hB
                rw [ht] at hP
                have hD := lx_dj hD hFc
                refine lv_if_eq (tgt := 138) hx hb d_Mo_byteAt_127 (by decide) (fun c_13 => ?_) (fun c_13 => ?_)
                · have h := lf_t h c_13
                  exact hB_138 S_12 _ _ _ h hP hD hS (lv_sub hl [] rfl)
                · have h := lf_f h c_13
                  refine lv_aload_n hx hb d_Mo_byteAt_130 rfl (lv_at hl 1 rfl) ?_
                  refine lv_iload_n hx hb d_Mo_byteAt_131 rfl (lv_at hl 0 rfl) ?_
                  obtain ⟨r_14, S_14, hc_14, h⟩ := lf_cE h
                  have hFc := lx_free hD hS hA
                  refine va_calli (va_runV (As := [.int x_11]) (rest := []) ⟨hx, hb, hml, hown, hts⟩ (l_Mo_entry l dC dI X _ hc_14) (cwV 1 hts (gwV good_Mq (u_Mq_Mo _ k_Mo_110) (u_Mq_Mo _ k_Mo_111) (u_Mq_Mo _ k_Mo_480) (u_Mq_Mo _ k_Mo_0) (wcs (u_Mq_Mo _ k_Mo_112) (fun _ h => h))) rfl rfl rfl (by decide +kernel) ⟨Nat.le_of_ble_eq_true rfl, Nat.le_of_ble_eq_true rfl⟩) (pv_ofE (X.same _) (fun U z1 z2 => X.mono _ _ U hFc (hEw _ _ hS U z1 z2)) hP hK hD (va_recv hK hP (ci := 12) (q0 := 0) rfl rfl)) rfl rfl hl.1 rfl (lv_room (Nat.le_of_ble_eq_true rfl)) d_Mo_byteAt_132 ⟨by decide, by decide⟩) hS (fun q _ h => hFc q h) hFc (fun r_ u t H locs ht hvm hw hB hz1 hk1 hS => ?_)
                  rw [hw]
                  obtain ⟨hP, -, hD⟩ := hB
                  rw [ht] at hP
                  have hD := lx_dj hD hFc
                  refine lv_if_ne (tgt := 140) hx hb d_Mo_byteAt_135 (by decide) (fun c_15 => ?_) (fun c_15 => ?_)
                  · have h := lf_f h c_15
                    exact hB_140 p0 p1 S_14 _ _ _ h hP hD hS (lv_sub hl [1, 2, 3] rfl)
                  · have h := lf_t h c_15
                    exact hB_138 S_14 _ _ _ h hP hD hS (lv_sub hl [] rfl)
          · have h := lf_f h c_7
            refine lv_iload_n hx hb d_Mo_byteAt_41 rfl (lv_at hl 1 rfl) ?_
            refine lv_iconst (v := 2) hx hb d_Mo_byteAt_42 (by decide) ?_
            refine lv_icmp_ge (tgt := 60) hx hb d_Mo_byteAt_43 (by decide) (fun c_16 => ?_) (fun c_16 => ?_)
            · have h := lf_t h c_16
              refine lv_aload_n hx hb d_Mo_byteAt_60 rfl (lv_at hl 0 rfl) ?_
              refine va_get (D := (dC, dI)) (ci := 12) (v := .ref M.a_used) (C := R_Mo) (T := F_Mo) (N := 66) hx hb hts (fun w h => u_Mq_Mo w (i_Mo w h)) hown hK hP 0 rfl rfl 52 (by decide) (hts _ (u_Mq_Mo _ k_Mo_59)) (fun _ h9 => h9) rfl d_Mo_byteAt_61 ?_
              refine lv_iload_n hx hb d_Mo_byteAt_64 rfl (lv_at hl 1 rfl) ?_
              refine lv_iconst (v := 2) hx hb d_Mo_byteAt_65 (by decide) ?_
              refine lv_idiv hx hb d_Mo_byteAt_66 (by decide) ?_
              obtain ⟨g_17, h⟩ := lf_gE h
              refine va_zald hx hb hK hP 22 21 rfl rfl g_17 d_Mo_byteAt_67 ?_
              refine lv_if_eq (tgt := 90) hx hb d_Mo_byteAt_68 (by decide) (fun c_18 => ?_) (fun c_18 => ?_)
              · have h := lf_t h c_18
                refine lv_iconst (v := (-1)) hx hb d_Mo_byteAt_90 (by decide) ?_
                rw [hQ]
                have e1 : ((-1)) = r := congrArg Prod.fst (Option.some.inj h)
                have e2 : S_6 = S' := congrArg Prod.snd (Option.some.inj h)
                have hP := lx_newP e2.symm hP
                have hD := lx_newD e2.symm hD
                exact W.iret (v := ((-1))) hx hb hr (fun t ht hW => ⟨⟨((-1)), (), rfl, e1, by rw [ht]; exact hP, va_K.moved hW.alike hK, hD⟩, hS.F ht⟩) hS.2.2 d_Mo_byteAt_91
              · have h := lf_f h c_18
                refine lv_aload_n hx hb d_Mo_byteAt_71 rfl (lv_at hl 0 rfl) ?_
                refine va_get (D := (dC, dI)) (ci := 12) (v := .ref M.a_fresh) (C := R_Mo) (T := F_Mo) (N := 66) hx hb hts (fun w h => u_Mq_Mo w (i_Mo w h)) hown hK hP 0 rfl rfl 2 (by decide) (hts _ (u_Mq_Mo _ k_Mo_9)) (fun _ h9 => h9) rfl d_Mo_byteAt_72 ?_
                refine lv_sipush (v := 512) hx hb d_Mo_byteAt_75 (by decide) ?_
                refine lv_iload_n hx hb d_Mo_byteAt_78 rfl (lv_at hl 1 rfl) ?_
                refine lv_imul hx hb d_Mo_byteAt_79 ?_
                refine lv_iload_n hx hb d_Mo_byteAt_80 rfl (lv_at hl 2 rfl) ?_
                refine lv_iadd hx hb d_Mo_byteAt_81 ?_
                obtain ⟨g_19, h⟩ := lf_gE h
                refine va_bald hx hb hK hP 2 1 rfl rfl g_19 d_Mo_byteAt_82 ?_
                refine lv_sipush (v := 255) hx hb d_Mo_byteAt_83 (by decide) ?_
                refine lv_iand hx hb d_Mo_byteAt_86 ?_
                refine lv_goto (tgt := 91) hx hb d_Mo_byteAt_87 (by decide) ?_
                rw [hQ]
                have e1 : ((S_6.v_fresh ((512 * p0) + p1).toNatClampNeg) &&& 255) = r := congrArg Prod.fst (Option.some.inj h)
                have e2 : S_6 = S' := congrArg Prod.snd (Option.some.inj h)
                have hP := lx_newP e2.symm hP
                have hD := lx_newD e2.symm hD
                exact W.iret (v := ((S_6.v_fresh ((512 * p0) + p1).toNatClampNeg) &&& 255)) hx hb hr (fun t ht hW => ⟨⟨((S_6.v_fresh ((512 * p0) + p1).toNatClampNeg) &&& 255), (), rfl, e1, by rw [ht]; exact hP, va_K.moved hW.alike hK, hD⟩, hS.F ht⟩) hS.2.2 d_Mo_byteAt_91
            · have h := lf_f h c_16
              refine lv_aload_n hx hb d_Mo_byteAt_46 rfl (lv_at hl 0 rfl) ?_
              refine lv_sipush (v := 512) hx hb d_Mo_byteAt_47 (by decide) ?_
              refine lv_iload_n hx hb d_Mo_byteAt_50 rfl (lv_at hl 1 rfl) ?_
              refine lv_imul hx hb d_Mo_byteAt_51 ?_
              refine lv_iload_n hx hb d_Mo_byteAt_52 rfl (lv_at hl 2 rfl) ?_
              refine lv_iadd hx hb d_Mo_byteAt_53 ?_
              obtain ⟨r_20, S_20, hc_20, h⟩ := lf_cE h
              have hFc := lx_free hD hS hA
              refine va_calli (va_runV (As := [.int ((512 * p0) + p1)]) (rest := []) ⟨hx, hb, hml, hown, hts⟩ (l_Mo_one l dC dI X _ hc_20) (cwV 1 hts (gwV good_Mq (u_Mq_Mo _ k_Mo_94) (u_Mq_Mo _ k_Mo_95) (u_Mq_Mo _ k_Mo_475) (u_Mq_Mo _ k_Mo_0) (wcs (u_Mq_Mo _ k_Mo_96) (fun _ h => h))) rfl rfl rfl (by decide +kernel) ⟨Nat.le_of_ble_eq_true rfl, Nat.le_of_ble_eq_true rfl⟩) (pv_ofE (X.same _) (fun U z1 z2 => X.mono _ _ U hFc (hEw _ _ hS U z1 z2)) hP hK hD (va_recv hK hP (ci := 12) (q0 := 0) rfl rfl)) rfl rfl hl.1 rfl (lv_room (Nat.le_of_ble_eq_true rfl)) d_Mo_byteAt_54 ⟨by decide, by decide⟩) hS (fun q _ h => hFc q h) hFc (fun r_ u t H locs ht hvm hw hB hz1 hk1 hS => ?_)
              rw [hw]
              obtain ⟨hP, -, hD⟩ := hB
              rw [ht] at hP
              have hD := lx_dj hD hFc
              refine lv_goto (tgt := 91) hx hb d_Mo_byteAt_57 (by decide) ?_
              rw [hQ]
              have e1 : r_20 = r := congrArg Prod.fst (Option.some.inj h)
              have e2 : S_20 = S' := congrArg Prod.snd (Option.some.inj h)
              have hP := lx_newP e2.symm hP
              have hD := lx_newD e2.symm hD
              exact W.iret (v := r_20) hx hb hr (fun t ht hW => ⟨⟨r_20, (), rfl, e1, by rw [ht]; exact hP, va_K.moved hW.alike hK, hD⟩, hS.F ht⟩) hS.2.2 d_Mo_byteAt_91
        · have h := lf_f h c_5
          exact hB_28 S_1 _ _ _ h hP hD hS (lv_sub hl [] rfl)
set_option maxHeartbeats 4000000 in
set_option maxRecDepth 100000 in
theorem l_Mo_format (l : Launch) (dC : Nat → ClassId) (dI : Nat → Nat → Nat) {K : Nat} {M : MA} {E : (Nat → Prop) → State → Prop} (X : lx_X l dC dI K M E) (sz : Nat) {S S' : MS} {p0 : Int32} {p1 : Int32} {p2 : Int32} {p3 : Int32} {r : Int32} (h : f_Mo_format K S p0 p1 p2 p3 = some (r, S')) : Met l y_Mo_format (.code y_Mo_format b_Mo_format 11 (some .int) :: V_Mq) ({ frames := 8, cells := 0, slots := 0, locals := 241 }) (va_Pc [.ref M.o, .int p0, .int p1, .int p2, .int p3] (fun U => U.heap.size = sz ∧ at_ (dC, dI) (fun _ => True) (wM M S) (tM M) U ∧ E (va_A (wM M S) sz) U)) (va_Qi (fun (r_ : Int32) (u : Unit) => r_ = r) (fun (u : Unit) t => at_ (dC, dI) (va_A (wM M S) sz) (wM M S') (tM M) t) (va_A (wM M S) sz)) 0 0 (va_A (wM M S) sz) := by
  refine Met.ofW (cc := b_Mo_format) (maxL := 11) (ret := (some .int)) (by decide) rfl ?_
  intro p e s m args below meth c s₁ B hml hv
  obtain ⟨rfl, hsz, ⟨hP, hK, hD0⟩, hE⟩ := hv
  have hx := B.exec
  have hb := B.bytes
  have hr := B.returns
  have hts0 := atoms_spec (ws := .code y_Mo_format b_Mo_format 11 (some .int) :: V_Mq) B.pre
  have hts : ∀ w ∈ V_Mq, w.before ([.ref M.o, .int p0, .int p1, .int p2, .int p3] : List Value).toArray s = true := fun w h => hts0 w (List.mem_cons_of_mem _ h)
  have hown : s.vm.findClass R_Mo = some m.cls := findClass_of_methodNamed B.named
  subst hsz
  have hD := hD0.self (sz := s.heap.size)
  generalize hAe : va_A (wM M S) s.heap.size = A at hD hE ⊢
  have hA : ∀ q : Nat, s.heap.size ≤ q → A q := fun q h => by rw [← hAe]; exact Or.inr h
  have hS : va_S A s.heap s.heap [] := va_S.rf
  have hP : va_P (dC, dI) classes (wM M S) s.heap := hP
  have hK : va_K (dC, dI) classes (tM M) s := hK
  have hEw : ∀ (H : Heap) (locs : List Loc), va_S A s.heap H locs → ∀ U : State, U.heap = H → s.WarmedH U.vm → E A U := fun H locs hS U hU hW => X.kept A s U H locs hE hS hU hW
  have hl := lv_entry ([.ref M.o, .int p0, .int p1, .int p2, .int p3]) (n := 11) (Nat.le_of_ble_eq_true rfl)
  rw [lg_entry_eq]
  generalize (lg_sl ([.ref M.o, .int p0, .int p1, .int p2, .int p3]) ++ List.replicate (11 - (lg_sl ([.ref M.o, .int p0, .int p1, .int p2, .int p3])).length) Slot.unset).toArray = ls at hl ⊢
  have hl : lv_has ls 11 [(0, .ref M.o), (1, .int p0), (2, .int p1), (3, .int p2), (4, .int p3)] := hl
  refine qabs (fun Q hQ => ?_)
  have hB_116 : ∀ (rec_71 : Int32 → Int32 → Int32 → Int32 → Int32 → Int32 → Int32 → MS → Option (Int32 × MS)) (hr_71 : ∀ (y_1 : Int32) (y_2 : Int32) (y_3 : Int32) (y_4 : Int32) (y_5 : Int32) (y_6 : Int32) (y_7 : Int32) (S : MS) (H : Heap) (locs : List Loc) (ls : Array Slot), rec_71 y_1 y_2 y_3 y_4 y_5 y_6 y_7 S = some (r, S') → va_P (dC, dI) classes (wM M S) H → va_D A (wM M S) → va_S A s.heap H locs → lv_has ls 11 [(0, .ref M.o), (1, .int y_1), (2, .int y_2), (3, .int y_3), (4, .int y_4), (5, .int y_5), (6, .int y_6), (7, .int y_7)] → W p l e ({ frames := 8, cells := 0, slots := 0, locals := 241 }) s m ([.ref M.o, .int p0, .int p1, .int p2, .int p3] : List Value).toArray below meth c H locs 0 0 Q (F0 m 71 ls [])), ∀ (y_1 : Int32) (y_2 : Int32) (y_3 : Int32) (y_4 : Int32) (y_5 : Int32) (y_7 : Int32) (z_0 : Int32) (S : MS) (H : Heap) (locs : List Loc) (ls : Array Slot), f_Mo_format_116 K rec_71 y_1 y_2 y_3 y_4 y_5 y_7 z_0 S = some (r, S') → va_P (dC, dI) classes (wM M S) H → va_D A (wM M S) → va_S A s.heap H locs → lv_has ls 11 [(0, .ref M.o), (1, .int y_1), (2, .int y_2), (3, .int y_3), (4, .int y_4), (5, .int y_5), (7, .int y_7)] → W p l e ({ frames := 8, cells := 0, slots := 0, locals := 241 }) s m ([.ref M.o, .int p0, .int p1, .int p2, .int p3] : List Value).toArray below meth c H locs 0 0 Q (F0 m 116 ls [.int z_0]) := by
    intro rec_71 hr_71 y_1 y_2 y_3 y_4 y_5 y_7 z_0 S H locs ls h hP hD hS hl
    rw [f_Mo_format_116] at h
    refine lv_istore (lv' := [(6, .int z_0), (0, .ref M.o), (1, .int y_1), (2, .int y_2), (3, .int y_3), (4, .int y_4), (5, .int y_5), (7, .int y_7)]) hx hb d_Mo_format_116 hl (by decide) rfl (fun ls hl => ?_)
    obtain ⟨x_19, ex_19, h⟩ := lf_lX h
    refine lv_iinc (v := x_19) (lv' := [(7, .int x_19), (6, .int z_0), (0, .ref M.o), (1, .int y_1), (2, .int y_2), (3, .int y_3), (4, .int y_4), (5, .int y_5)]) hx hb d_Mo_format_118 hl (k := 7) rfl (by rw [ex_19]; rfl) (by decide) rfl (fun ls hl => ?_)
    refine lv_goto (tgt := 71) hx hb d_Mo_format_121 (by decide) ?_
    exact hr_71 y_1 y_2 y_3 y_4 y_5 z_0 x_19 S _ _ _ h hP hD hS (lv_sub hl [2, 3, 4, 5, 6, 7, 1, 0] rfl)
  have hB_180 : ∀ (rec_127 : Int32 → Int32 → Int32 → Int32 → Int32 → Int32 → Int32 → MS → Option (Int32 × MS)) (hr_127 : ∀ (y_1 : Int32) (y_2 : Int32) (y_3 : Int32) (y_4 : Int32) (y_5 : Int32) (y_6 : Int32) (y_7 : Int32) (S : MS) (H : Heap) (locs : List Loc) (ls : Array Slot), rec_127 y_1 y_2 y_3 y_4 y_5 y_6 y_7 S = some (r, S') → va_P (dC, dI) classes (wM M S) H → va_D A (wM M S) → va_S A s.heap H locs → lv_has ls 11 [(0, .ref M.o), (1, .int y_1), (2, .int y_2), (3, .int y_3), (4, .int y_4), (5, .int y_5), (6, .int y_6), (7, .int y_7)] → W p l e ({ frames := 8, cells := 0, slots := 0, locals := 241 }) s m ([.ref M.o, .int p0, .int p1, .int p2, .int p3] : List Value).toArray below meth c H locs 0 0 Q (F0 m 127 ls [])), ∀ (y_1 : Int32) (y_2 : Int32) (y_3 : Int32) (y_4 : Int32) (y_5 : Int32) (y_6 : Int32) (y_7 : Int32) (S : MS) (H : Heap) (locs : List Loc) (ls : Array Slot), f_Mo_format_180 K rec_127 y_1 y_2 y_3 y_4 y_5 y_6 y_7 S = some (r, S') → va_P (dC, dI) classes (wM M S) H → va_D A (wM M S) → va_S A s.heap H locs → lv_has ls 11 [(0, .ref M.o), (1, .int y_1), (2, .int y_2), (3, .int y_3), (4, .int y_4), (5, .int y_5), (6, .int y_6), (7, .int y_7)] → W p l e ({ frames := 8, cells := 0, slots := 0, locals := 241 }) s m ([.ref M.o, .int p0, .int p1, .int p2, .int p3] : List Value).toArray below meth c H locs 0 0 Q (F0 m 180 ls []) := by
    intro rec_127 hr_127 y_1 y_2 y_3 y_4 y_5 y_6 y_7 S H locs ls h hP hD hS hl
    rw [f_Mo_format_180] at h
    obtain ⟨x_28, ex_28, h⟩ := lf_lX h
    refine lv_iinc (v := x_28) (lv' := [(7, .int x_28), (0, .ref M.o), (1, .int y_1), (2, .int y_2), (3, .int y_3), (4, .int y_4), (5, .int y_5), (6, .int y_6)]) hx hb d_Mo_format_180 hl (k := 7) rfl (by rw [ex_28]; rfl) (by decide) rfl (fun ls hl => ?_)
    refine lv_goto (tgt := 127) hx hb d_Mo_format_183 (by decide) ?_
    exact hr_127 y_1 y_2 y_3 y_4 y_5 y_6 x_28 S _ _ _ h hP hD hS (lv_sub hl [1, 2, 3, 4, 5, 6, 7, 0] rfl)
  have hB_537 : ∀ (rec_502 : Int32 → Int32 → Int32 → Int32 → MS → Option (Int32 × MS)) (hr_502 : ∀ (y_5 : Int32) (y_8 : Int32) (y_9 : Int32) (y_10 : Int32) (S : MS) (H : Heap) (locs : List Loc) (ls : Array Slot), rec_502 y_5 y_8 y_9 y_10 S = some (r, S') → va_P (dC, dI) classes (wM M S) H → va_D A (wM M S) → va_S A s.heap H locs → lv_has ls 11 [(0, .ref M.o), (5, .int y_5), (8, .int y_8), (9, .int y_9), (10, .int y_10)] → W p l e ({ frames := 8, cells := 0, slots := 0, locals := 241 }) s m ([.ref M.o, .int p0, .int p1, .int p2, .int p3] : List Value).toArray below meth c H locs 0 0 Q (F0 m 502 ls [])), ∀ (y_5 : Int32) (y_8 : Int32) (y_9 : Int32) (y_10 : Int32) (z_1 : Int32) (z_2 : Int32) (S : MS) (H : Heap) (locs : List Loc) (ls : Array Slot), f_Mo_format_537 K rec_502 y_5 y_8 y_9 y_10 z_1 z_2 S = some (r, S') → va_P (dC, dI) classes (wM M S) H → va_D A (wM M S) → va_S A s.heap H locs → lv_has ls 11 [(0, .ref M.o), (5, .int y_5), (8, .int y_8), (9, .int y_9), (10, .int y_10)] → W p l e ({ frames := 8, cells := 0, slots := 0, locals := 241 }) s m ([.ref M.o, .int p0, .int p1, .int p2, .int p3] : List Value).toArray below meth c H locs 0 0 Q (F0 m 537 ls [.int z_2, .int z_1, .ref M.a_disk]) := by
    intro rec_502 hr_502 y_5 y_8 y_9 y_10 z_1 z_2 S H locs ls h hP hD hS hl
    rw [f_Mo_format_537] at h
    obtain ⟨g_76, h⟩ := lf_gE h
    refine va_bast hx hb hK hP hD hS 1 0 rfl rfl g_76 d_Mo_format_537 (fun H locs hP hD hS => ?_)
    obtain ⟨S_77, eS_77, h⟩ := lf_lX h
    have hP := lx_newP eS_77 hP
    have hD := lx_newD eS_77 hD
    obtain ⟨x_78, ex_78, h⟩ := lf_lX h
    refine lv_iinc (v := x_78) (lv' := [(10, .int x_78), (0, .ref M.o), (5, .int y_5), (8, .int y_8), (9, .int y_9)]) hx hb d_Mo_format_538 hl (k := 4) rfl (by rw [ex_78]; rfl) (by decide) rfl (fun ls hl => ?_)
    refine lv_goto (tgt := 502) hx hb d_Mo_format_541 (by decide) ?_
    exact hr_502 y_5 y_8 y_9 x_78 S_77 _ _ _ h hP hD hS (lv_sub hl [1, 2, 3, 4, 0] rfl)
  have hB_570 : ∀ (y_8 : Int32) (S : MS) (H : Heap) (locs : List Loc) (ls : Array Slot), f_Mo_format_570 K y_8 S = some (r, S') → va_P (dC, dI) classes (wM M S) H → va_D A (wM M S) → va_S A s.heap H locs → lv_has ls 11 [(0, .ref M.o), (8, .int y_8)] → W p l e ({ frames := 8, cells := 0, slots := 0, locals := 241 }) s m ([.ref M.o, .int p0, .int p1, .int p2, .int p3] : List Value).toArray below meth c H locs 0 0 Q (F0 m 570 ls []) := by
    intro y_8 S H locs ls h hP hD hS hl
    rw [f_Mo_format_570] at h
    refine lv_aload_n hx hb d_Mo_format_570 rfl (lv_at hl 0 rfl) ?_
    refine lv_iconst (v := 0) hx hb d_Mo_format_571 (by decide) ?_
    refine va_put (D := (dC, dI)) (ci := 12) (v := .int 0) (ty := .boolean) (C := R_Mo) (T := F_Mo) (N := 66) hx hb hts (fun w h => u_Mq_Mo w (i_Mo w h)) t_Mo t_Mo_ok n_Mo hown hK hP hD hS 0 rfl rfl 9 (by decide) (hts _ (u_Mq_Mo _ k_Mo_16)) (fun _ h9 => h9) rfl (by decide +kernel) rfl rfl (Nat.le_of_ble_eq_true rfl) d_Mo_format_572 (fun H locs hP hD hS => ?_)
    obtain ⟨S_66, eS_66, h⟩ := lf_lX h
    have hP := lx_newP eS_66 hP
    have hD := lx_newD eS_66 hD
    refine lv_aload_n hx hb d_Mo_format_575 rfl (lv_at hl 0 rfl) ?_
    refine lv_iconst (v := 0) hx hb d_Mo_format_576 (by decide) ?_
    refine va_put (D := (dC, dI)) (ci := 12) (v := .int 0) (ty := .boolean) (C := R_Mo) (T := F_Mo) (N := 66) hx hb hts (fun w h => u_Mq_Mo w (i_Mo w h)) t_Mo t_Mo_ok n_Mo hown hK hP hD hS 0 rfl rfl 10 (by decide) (hts _ (u_Mq_Mo _ k_Mo_17)) (fun _ h9 => h9) rfl (by decide +kernel) rfl rfl (Nat.le_of_ble_eq_true rfl) d_Mo_format_577 (fun H locs hP hD hS => ?_)
    obtain ⟨S_67, eS_67, h⟩ := lf_lX h
    have hP := lx_newP eS_67 hP
    have hD := lx_newD eS_67 hD
    refine lv_aload_n hx hb d_Mo_format_580 rfl (lv_at hl 0 rfl) ?_
    refine lv_iconst (v := 0) hx hb d_Mo_format_581 (by decide) ?_
    refine va_put (D := (dC, dI)) (ci := 12) (v := .int 0) (ty := .int) (C := R_Mo) (T := F_Mo) (N := 66) hx hb hts (fun w h => u_Mq_Mo w (i_Mo w h)) t_Mo t_Mo_ok n_Mo hown hK hP hD hS 0 rfl rfl 18 (by decide) (hts _ (u_Mq_Mo _ k_Mo_25)) (fun _ h9 => h9) rfl (by decide +kernel) rfl rfl (Nat.le_of_ble_eq_true rfl) d_Mo_format_582 (fun H locs hP hD hS => ?_)
    obtain ⟨S_68, eS_68, h⟩ := lf_lX h
    have hP := lx_newP eS_68 hP
    have hD := lx_newD eS_68 hD
    refine lv_aload_n hx hb d_Mo_format_585 rfl (lv_at hl 0 rfl) ?_
    obtain ⟨S_69, hc_69, h⟩ := lf_bE h
    have hFc := lx_free hD hS hA
    refine va_callv (va_runV (As := []) (rest := []) ⟨hx, hb, hml, hown, hts⟩ (l_Mo_changed l dC dI X _ hc_69) (cwV 0 hts (gwV good_Mq (u_Mq_Mo _ k_Mo_205) (u_Mq_Mo _ k_Mo_206) (u_Mq_Mo _ k_Mo_506) (u_Mq_Mo _ k_Mo_0) (wcs (u_Mq_Mo _ k_Mo_207) (fun _ h => h))) rfl rfl rfl (by decide +kernel) ⟨Nat.le_of_ble_eq_true rfl, Nat.le_of_ble_eq_true rfl⟩) (pv_ofE (X.same _) (fun U z1 z2 => X.mono _ _ U hFc (hEw _ _ hS U z1 z2)) hP hK hD (va_recv hK hP (ci := 12) (q0 := 0) rfl rfl)) rfl rfl hl.1 rfl (lv_room (Nat.le_of_ble_eq_true rfl)) d_Mo_format_586 ⟨by decide, by decide⟩) hS (fun q _ h => hFc q h) hFc (fun u t H locs ht hvm hw hB hz1 hk1 hS => ?_)
    obtain ⟨hP, -, hD⟩ := hB
    rw [ht] at hP
    have hD := lx_dj hD hFc
    refine lv_iload hx hb d_Mo_format_589 (lv_at hl 1 rfl) ?_
    refine lv_if_eq (tgt := 601) hx hb d_Mo_format_591 (by decide) (fun c_70 => ?_) (fun c_70 => ?_)
    · have h := lf_t h c_70
      refine lv_iconst (v := 0) hx hb d_Mo_format_601 (by decide) ?_
      rw [hQ]
      have e1 : (0 : Int32) = r := congrArg Prod.fst (Option.some.inj h)
      have e2 : S_69 = S' := congrArg Prod.snd (Option.some.inj h)
      have hP := lx_newP e2.symm hP
      have hD := lx_newD e2.symm hD
      exact W.iret (v := 0) hx hb hr (fun t ht hW => ⟨⟨0, (), rfl, e1, by rw [ht]; exact hP, va_K.moved hW.alike hK, hD⟩, hS.F ht⟩) hS.2.2 d_Mo_format_602
    · have h := lf_f h c_70
      refine lv_aload_n hx hb d_Mo_format_594 rfl (lv_at hl 0 rfl) ?_
      refine va_get (D := (dC, dI)) (ci := 12) (v := .int S_69.v_k) (C := R_Mo) (T := F_Mo) (N := 66) hx hb hts (fun w h => u_Mq_Mo w (i_Mo w h)) hown hK hP 0 rfl rfl 17 (by decide) (hts _ (u_Mq_Mo _ k_Mo_24)) (fun _ h9 => h9) rfl d_Mo_format_595 ?_
      refine lv_goto (tgt := 602) hx hb d_Mo_format_598 (by decide) ?_
      rw [hQ]
      have e1 : S_69.v_k = r := congrArg Prod.fst (Option.some.inj h)
      have e2 : S_69 = S' := congrArg Prod.snd (Option.some.inj h)
      have hP := lx_newP e2.symm hP
      have hD := lx_newD e2.symm hD
      exact W.iret (v := S_69.v_k) hx hb hr (fun t ht hW => ⟨⟨S_69.v_k, (), rfl, e1, by rw [ht]; exact hP, va_K.moved hW.alike hK, hD⟩, hS.F ht⟩) hS.2.2 d_Mo_format_602
  have hB_502 : ∀ (k : Nat), ∀ (y_5 : Int32) (y_8 : Int32) (y_9 : Int32) (y_10 : Int32) (S : MS) (H : Heap) (locs : List Loc) (ls : Array Slot), f_Mo_format_502 K k y_5 y_8 y_9 y_10 S = some (r, S') → va_P (dC, dI) classes (wM M S) H → va_D A (wM M S) → va_S A s.heap H locs → lv_has ls 11 [(0, .ref M.o), (5, .int y_5), (8, .int y_8), (9, .int y_9), (10, .int y_10)] → W p l e ({ frames := 8, cells := 0, slots := 0, locals := 241 }) s m ([.ref M.o, .int p0, .int p1, .int p2, .int p3] : List Value).toArray below meth c H locs 0 0 Q (F0 m 502 ls []) := by
    intro k
    induction k with
    | zero => intro y_5 y_8 y_9 y_10 S H locs ls h; exact lf_no h
    | succ k hr_502 =>
      intro y_5 y_8 y_9 y_10 S H locs ls h hP hD hS hl
      rw [f_Mo_format_502] at h
      refine lv_iload hx hb d_Mo_format_502 (lv_at hl 4 rfl) ?_
      refine lv_bipush (v := 11) hx hb d_Mo_format_504 (by decide) ?_
      refine lv_icmp_ge (tgt := 544) hx hb d_Mo_format_506 (by decide) (fun c_71 => ?_) (fun c_71 => ?_)
      · have h := lf_t h c_71
        refine lv_aload_n hx hb d_Mo_format_544 rfl (lv_at hl 0 rfl) ?_
        refine lv_iload hx hb d_Mo_format_545 (lv_at hl 3 rfl) ?_
        refine lv_bipush (v := 11) hx hb d_Mo_format_547 (by decide) ?_
        refine lv_iadd hx hb d_Mo_format_549 ?_
        refine lv_iconst (v := 1) hx hb d_Mo_format_550 (by decide) ?_
        refine lv_ldc2 (v := 8) hx hb hown (hts _ (u_Mq_Mo _ k_Mo_235)) d_Mo_format_551 ?_
        obtain ⟨S_72, hc_72, h⟩ := lf_bE h
        have hFc := lx_free hD hS hA
        refine va_callv (va_runV (As := [.int (y_9 + 11), .int 1, .long 8]) (rest := []) ⟨hx, hb, hml, hown, hts⟩ (l_Mo_set l dC dI X _ hc_72) (cwV 3 hts (gwV good_Mq (u_Mq_Mo _ k_Mo_221) (u_Mq_Mo _ k_Mo_222) (u_Mq_Mo _ k_Mo_478) (u_Mq_Mo _ k_Mo_0) (wcs (u_Mq_Mo _ k_Mo_223) (fun _ h => h))) rfl rfl rfl (by decide +kernel) ⟨Nat.le_of_ble_eq_true rfl, Nat.le_of_ble_eq_true rfl⟩) (pv_ofE (X.same _) (fun U z1 z2 => X.mono _ _ U hFc (hEw _ _ hS U z1 z2)) hP hK hD (va_recv hK hP (ci := 12) (q0 := 0) rfl rfl)) rfl rfl hl.1 rfl (lv_room (Nat.le_of_ble_eq_true rfl)) d_Mo_format_554 ⟨by decide, by decide⟩) hS (fun q _ h => hFc q h) hFc (fun u t H locs ht hvm hw hB hz1 hk1 hS => ?_)
        obtain ⟨hP, -, hD⟩ := hB
        rw [ht] at hP
        have hD := lx_dj hD hFc
        refine lv_aload_n hx hb d_Mo_format_557 rfl (lv_at hl 0 rfl) ?_
        refine lv_iload hx hb d_Mo_format_558 (lv_at hl 3 rfl) ?_
        refine lv_bipush (v := 24) hx hb d_Mo_format_560 (by decide) ?_
        refine lv_iadd hx hb d_Mo_format_562 ?_
        refine lv_iconst (v := 2) hx hb d_Mo_format_563 (by decide) ?_
        refine lv_ldc2 (v := 33) hx hb hown (hts _ (u_Mq_Mo _ k_Mo_236)) d_Mo_format_564 ?_
        obtain ⟨S_73, hc_73, h⟩ := lf_bE h
        have hFc := lx_free hD hS hA
        refine va_callv (va_runV (As := [.int (y_9 + 24), .int 2, .long 33]) (rest := []) ⟨hx, hb, hml, hown, hts⟩ (l_Mo_set l dC dI X _ hc_73) (cwV 3 hts (gwV good_Mq (u_Mq_Mo _ k_Mo_221) (u_Mq_Mo _ k_Mo_222) (u_Mq_Mo _ k_Mo_478) (u_Mq_Mo _ k_Mo_0) (wcs (u_Mq_Mo _ k_Mo_223) (fun _ h => h))) rfl rfl rfl (by decide +kernel) ⟨Nat.le_of_ble_eq_true rfl, Nat.le_of_ble_eq_true rfl⟩) (pv_ofE (X.same _) (fun U z1 z2 => X.mono _ _ U hFc (hEw _ _ hS U z1 z2)) hP hK hD (va_recv hK hP (ci := 12) (q0 := 0) rfl rfl)) rfl rfl hl.1 rfl (lv_room (Nat.le_of_ble_eq_true rfl)) d_Mo_format_567 ⟨by decide, by decide⟩) hS (fun q _ h => hFc q h) hFc (fun u t H locs ht hvm hw hB hz1 hk1 hS => ?_)
        obtain ⟨hP, -, hD⟩ := hB
        rw [ht] at hP
        have hD := lx_dj hD hFc
        exact hB_570 y_8 S_73 _ _ _ h hP hD hS (lv_sub hl [0, 2] rfl)
      · have h := lf_f h c_71
        refine lv_aload_n hx hb d_Mo_format_509 rfl (lv_at hl 0 rfl) ?_
        refine va_get (D := (dC, dI)) (ci := 12) (v := .ref M.a_disk) (C := R_Mo) (T := F_Mo) (N := 66) hx hb hts (fun w h => u_Mq_Mo w (i_Mo w h)) hown hK hP 0 rfl rfl 1 (by decide) (hts _ (u_Mq_Mo _ k_Mo_8)) (fun _ h9 => h9) rfl d_Mo_format_510 ?_
        refine lv_iload hx hb d_Mo_format_513 (lv_at hl 3 rfl) ?_
        refine lv_iload hx hb d_Mo_format_515 (lv_at hl 4 rfl) ?_
        refine lv_iadd hx hb d_Mo_format_517 ?_
        refine lv_iload hx hb d_Mo_format_518 (lv_at hl 4 rfl) ?_
        refine lv_iload hx hb d_Mo_format_520 (lv_at hl 1 rfl) ?_
        refine lv_icmp_ge (tgt := 535) hx hb d_Mo_format_522 (by decide) (fun c_74 => ?_) (fun c_74 => ?_)
        · have h := lf_t h c_74
          refine lv_bipush (v := 32) hx hb d_Mo_format_535 (by decide) ?_
          exact hB_537 _ hr_502 y_5 y_8 y_9 y_10 (y_9 + y_10) 32 S _ _ _ h hP hD hS (lv_sub hl [0, 1, 2, 3, 4] rfl)
        · have h := lf_f h c_74
          refine lv_aload_n hx hb d_Mo_format_525 rfl (lv_at hl 0 rfl) ?_
          refine va_get (D := (dC, dI)) (ci := 12) (v := .ref M.a_tape) (C := R_Mo) (T := F_Mo) (N := 66) hx hb hts (fun w h => u_Mq_Mo w (i_Mo w h)) hown hK hP 0 rfl rfl 3 (by decide) (hts _ (u_Mq_Mo _ k_Mo_10)) (fun _ h9 => h9) rfl d_Mo_format_526 ?_
          refine lv_iload hx hb d_Mo_format_529 (lv_at hl 4 rfl) ?_
          obtain ⟨g_75, h⟩ := lf_gE h
          refine va_bald hx hb hK hP 3 2 rfl rfl g_75 d_Mo_format_531 ?_
          refine lv_goto (tgt := 537) hx hb d_Mo_format_532 (by decide) ?_
          exact hB_537 _ hr_502 y_5 y_8 y_9 y_10 (y_9 + y_10) (S.v_tape y_10.toNatClampNeg) S _ _ _ h hP hD hS (lv_sub hl [0, 1, 2, 3, 4] rfl)
  have hB_373 : ∀ (k : Nat), ∀ (y_5 : Int32) (y_8 : Int32) (S : MS) (H : Heap) (locs : List Loc) (ls : Array Slot), f_Mo_format_373 K k y_5 y_8 S = some (r, S') → va_P (dC, dI) classes (wM M S) H → va_D A (wM M S) → va_S A s.heap H locs → lv_has ls 11 [(0, .ref M.o), (5, .int y_5), (8, .int y_8)] → W p l e ({ frames := 8, cells := 0, slots := 0, locals := 241 }) s m ([.ref M.o, .int p0, .int p1, .int p2, .int p3] : List Value).toArray below meth c H locs 0 0 Q (F0 m 373 ls []) := by
    intro k
    induction k with
    | zero => intro y_5 y_8 S H locs ls h; exact lf_no h
    | succ k hr_373 =>
      intro y_5 y_8 S H locs ls h hP hD hS hl
      rw [f_Mo_format_373] at h
      refine lv_iload hx hb d_Mo_format_373 (lv_at hl 2 rfl) ?_
      refine lv_sipush (v := 512) hx hb d_Mo_format_375 (by decide) ?_
      refine lv_icmp_ge (tgt := 405) hx hb d_Mo_format_378 (by decide) (fun c_50 => ?_) (fun c_50 => ?_)
      · have h := lf_t h c_50
        refine lv_aload_n hx hb d_Mo_format_405 rfl (lv_at hl 0 rfl) ?_
        refine lv_sipush (v := 512) hx hb d_Mo_format_406 (by decide) ?_
        refine lv_iconst (v := 4) hx hb d_Mo_format_409 (by decide) ?_
        refine lv_ldc2 (v := 1096897106) hx hb hown (hts _ (u_Mq_Mo _ k_Mo_227)) d_Mo_format_410 ?_
        obtain ⟨S_51, hc_51, h⟩ := lf_bE h
        have hFc := lx_free hD hS hA
        refine va_callv (va_runV (As := [.int 512, .int 4, .long 1096897106]) (rest := []) ⟨hx, hb, hml, hown, hts⟩ (l_Mo_set l dC dI X _ hc_51) (cwV 3 hts (gwV good_Mq (u_Mq_Mo _ k_Mo_221) (u_Mq_Mo _ k_Mo_222) (u_Mq_Mo _ k_Mo_478) (u_Mq_Mo _ k_Mo_0) (wcs (u_Mq_Mo _ k_Mo_223) (fun _ h => h))) rfl rfl rfl (by decide +kernel) ⟨Nat.le_of_ble_eq_true rfl, Nat.le_of_ble_eq_true rfl⟩) (pv_ofE (X.same _) (fun U z1 z2 => X.mono _ _ U hFc (hEw _ _ hS U z1 z2)) hP hK hD (va_recv hK hP (ci := 12) (q0 := 0) rfl rfl)) rfl rfl hl.1 rfl (lv_room (Nat.le_of_ble_eq_true rfl)) d_Mo_format_413 ⟨by decide, by decide⟩) hS (fun q _ h => hFc q h) hFc (fun u t H locs ht hvm hw hB hz1 hk1 hS => ?_)
        obtain ⟨hP, -, hD⟩ := hB
        rw [ht] at hP
        have hD := lx_dj hD hFc
        refine lv_aload_n hx hb d_Mo_format_416 rfl (lv_at hl 0 rfl) ?_
        refine lv_sipush (v := 996) hx hb d_Mo_format_417 (by decide) ?_
        refine lv_iconst (v := 4) hx hb d_Mo_format_420 (by decide) ?_
        refine lv_ldc2 (v := 1631679090) hx hb hown (hts _ (u_Mq_Mo _ k_Mo_228)) d_Mo_format_421 ?_
        obtain ⟨S_52, hc_52, h⟩ := lf_bE h
        have hFc := lx_free hD hS hA
        refine va_callv (va_runV (As := [.int 996, .int 4, .long 1631679090]) (rest := []) ⟨hx, hb, hml, hown, hts⟩ (l_Mo_set l dC dI X _ hc_52) (cwV 3 hts (gwV good_Mq (u_Mq_Mo _ k_Mo_221) (u_Mq_Mo _ k_Mo_222) (u_Mq_Mo _ k_Mo_478) (u_Mq_Mo _ k_Mo_0) (wcs (u_Mq_Mo _ k_Mo_223) (fun _ h => h))) rfl rfl rfl (by decide +kernel) ⟨Nat.le_of_ble_eq_true rfl, Nat.le_of_ble_eq_true rfl⟩) (pv_ofE (X.same _) (fun U z1 z2 => X.mono _ _ U hFc (hEw _ _ hS U z1 z2)) hP hK hD (va_recv hK hP (ci := 12) (q0 := 0) rfl rfl)) rfl rfl hl.1 rfl (lv_room (Nat.le_of_ble_eq_true rfl)) d_Mo_format_424 ⟨by decide, by decide⟩) hS (fun q _ h => hFc q h) hFc (fun u t H locs ht hvm hw hB hz1 hk1 hS => ?_)
        obtain ⟨hP, -, hD⟩ := hB
        rw [ht] at hP
        have hD := lx_dj hD hFc
        refine lv_aload_n hx hb d_Mo_format_427 rfl (lv_at hl 0 rfl) ?_
        refine lv_sipush (v := 1000) hx hb d_Mo_format_428 (by decide) ?_
        refine lv_iconst (v := 4) hx hb d_Mo_format_431 (by decide) ?_
        refine lv_ldc2 (v := 4294967295) hx hb hown (hts _ (u_Mq_Mo _ k_Mo_229)) d_Mo_format_432 ?_
        obtain ⟨S_53, hc_53, h⟩ := lf_bE h
        have hFc := lx_free hD hS hA
        refine va_callv (va_runV (As := [.int 1000, .int 4, .long 4294967295]) (rest := []) ⟨hx, hb, hml, hown, hts⟩ (l_Mo_set l dC dI X _ hc_53) (cwV 3 hts (gwV good_Mq (u_Mq_Mo _ k_Mo_221) (u_Mq_Mo _ k_Mo_222) (u_Mq_Mo _ k_Mo_478) (u_Mq_Mo _ k_Mo_0) (wcs (u_Mq_Mo _ k_Mo_223) (fun _ h => h))) rfl rfl rfl (by decide +kernel) ⟨Nat.le_of_ble_eq_true rfl, Nat.le_of_ble_eq_true rfl⟩) (pv_ofE (X.same _) (fun U z1 z2 => X.mono _ _ U hFc (hEw _ _ hS U z1 z2)) hP hK hD (va_recv hK hP (ci := 12) (q0 := 0) rfl rfl)) rfl rfl hl.1 rfl (lv_room (Nat.le_of_ble_eq_true rfl)) d_Mo_format_435 ⟨by decide, by decide⟩) hS (fun q _ h => hFc q h) hFc (fun u t H locs ht hvm hw hB hz1 hk1 hS => ?_)
        obtain ⟨hP, -, hD⟩ := hB
        rw [ht] at hP
        have hD := lx_dj hD hFc
        refine lv_aload_n hx hb d_Mo_format_438 rfl (lv_at hl 0 rfl) ?_
        refine lv_sipush (v := 1004) hx hb d_Mo_format_439 (by decide) ?_
        refine lv_iconst (v := 4) hx hb d_Mo_format_442 (by decide) ?_
        refine lv_ldc2 (v := 4294967295) hx hb hown (hts _ (u_Mq_Mo _ k_Mo_229)) d_Mo_format_443 ?_
        obtain ⟨S_54, hc_54, h⟩ := lf_bE h
        have hFc := lx_free hD hS hA
        refine va_callv (va_runV (As := [.int 1004, .int 4, .long 4294967295]) (rest := []) ⟨hx, hb, hml, hown, hts⟩ (l_Mo_set l dC dI X _ hc_54) (cwV 3 hts (gwV good_Mq (u_Mq_Mo _ k_Mo_221) (u_Mq_Mo _ k_Mo_222) (u_Mq_Mo _ k_Mo_478) (u_Mq_Mo _ k_Mo_0) (wcs (u_Mq_Mo _ k_Mo_223) (fun _ h => h))) rfl rfl rfl (by decide +kernel) ⟨Nat.le_of_ble_eq_true rfl, Nat.le_of_ble_eq_true rfl⟩) (pv_ofE (X.same _) (fun U z1 z2 => X.mono _ _ U hFc (hEw _ _ hS U z1 z2)) hP hK hD (va_recv hK hP (ci := 12) (q0 := 0) rfl rfl)) rfl rfl hl.1 rfl (lv_room (Nat.le_of_ble_eq_true rfl)) d_Mo_format_446 ⟨by decide, by decide⟩) hS (fun q _ h => hFc q h) hFc (fun u t H locs ht hvm hw hB hz1 hk1 hS => ?_)
        obtain ⟨hP, -, hD⟩ := hB
        rw [ht] at hP
        have hD := lx_dj hD hFc
        refine lv_aload_n hx hb d_Mo_format_449 rfl (lv_at hl 0 rfl) ?_
        refine lv_sipush (v := 1020) hx hb d_Mo_format_450 (by decide) ?_
        refine lv_iconst (v := 4) hx hb d_Mo_format_453 (by decide) ?_
        refine lv_ldc2 (v := 2857697280) hx hb hown (hts _ (u_Mq_Mo _ k_Mo_230)) d_Mo_format_454 ?_
        obtain ⟨S_55, hc_55, h⟩ := lf_bE h
        have hFc := lx_free hD hS hA
        refine va_callv (va_runV (As := [.int 1020, .int 4, .long 2857697280]) (rest := []) ⟨hx, hb, hml, hown, hts⟩ (l_Mo_set l dC dI X _ hc_55) (cwV 3 hts (gwV good_Mq (u_Mq_Mo _ k_Mo_221) (u_Mq_Mo _ k_Mo_222) (u_Mq_Mo _ k_Mo_478) (u_Mq_Mo _ k_Mo_0) (wcs (u_Mq_Mo _ k_Mo_223) (fun _ h => h))) rfl rfl rfl (by decide +kernel) ⟨Nat.le_of_ble_eq_true rfl, Nat.le_of_ble_eq_true rfl⟩) (pv_ofE (X.same _) (fun U z1 z2 => X.mono _ _ U hFc (hEw _ _ hS U z1 z2)) hP hK hD (va_recv hK hP (ci := 12) (q0 := 0) rfl rfl)) rfl rfl hl.1 rfl (lv_room (Nat.le_of_ble_eq_true rfl)) d_Mo_format_457 ⟨by decide, by decide⟩) hS (fun q _ h => hFc q h) hFc (fun u t H locs ht hvm hw hB hz1 hk1 hS => ?_)
        obtain ⟨hP, -, hD⟩ := hB
        rw [ht] at hP
        have hD := lx_dj hD hFc
        refine lv_aload_n hx hb d_Mo_format_460 rfl (lv_at hl 0 rfl) ?_
        obtain ⟨r_56, S_56, hc_56, h⟩ := lf_cE h
        have hFc := lx_free hD hS hA
        refine va_calli (va_runV (As := []) (rest := []) ⟨hx, hb, hml, hown, hts⟩ (l_Mo_head l dC dI X _ hc_56) (cwV 0 hts (gwV good_Mq (u_Mq_Mo _ k_Mo_91) (u_Mq_Mo _ k_Mo_92) (u_Mq_Mo _ k_Mo_484) (u_Mq_Mo _ k_Mo_0) (wcs (u_Mq_Mo _ k_Mo_93) (fun _ h => h))) rfl rfl rfl (by decide +kernel) ⟨Nat.le_of_ble_eq_true rfl, Nat.le_of_ble_eq_true rfl⟩) (pv_ofE (X.same _) (fun U z1 z2 => X.mono _ _ U hFc (hEw _ _ hS U z1 z2)) hP hK hD (va_recv hK hP (ci := 12) (q0 := 0) rfl rfl)) rfl rfl hl.1 rfl (lv_room (Nat.le_of_ble_eq_true rfl)) d_Mo_format_461 ⟨by decide, by decide⟩) hS (fun q _ h => hFc q h) hFc (fun r_ u t H locs ht hvm hw hB hz1 hk1 hS => ?_)
        rw [hw]
        obtain ⟨hP, -, hD⟩ := hB
        rw [ht] at hP
        have hD := lx_dj hD hFc
        refine lv_istore (lv' := [(8, .int r_56), (0, .ref M.o), (5, .int y_5)]) hx hb d_Mo_format_464 hl (by decide) rfl (fun ls hl => ?_)
        refine lv_aload_n hx hb d_Mo_format_466 rfl (lv_at hl 1 rfl) ?_
        refine lv_iconst (v := 0) hx hb d_Mo_format_467 (by decide) ?_
        refine lv_ldc (v := 268435448) hx hb hown (hts _ (u_Mq_Mo _ k_Mo_117)) d_Mo_format_468 ?_
        obtain ⟨S_57, hc_57, h⟩ := lf_bE h
        have hFc := lx_free hD hS hA
        refine va_callv (va_runV (As := [.int 0, .int 268435448]) (rest := []) ⟨hx, hb, hml, hown, hts⟩ (l_Mo_setEntry l dC dI X _ hc_57) (cwV 2 hts (gwV good_Mq (u_Mq_Mo _ k_Mo_231) (u_Mq_Mo _ k_Mo_232) (u_Mq_Mo _ k_Mo_481) (u_Mq_Mo _ k_Mo_0) (wcs (u_Mq_Mo _ k_Mo_233) (fun _ h => h))) rfl rfl rfl (by decide +kernel) ⟨Nat.le_of_ble_eq_true rfl, Nat.le_of_ble_eq_true rfl⟩) (pv_ofE (X.same _) (fun U z1 z2 => X.mono _ _ U hFc (hEw _ _ hS U z1 z2)) hP hK hD (va_recv hK hP (ci := 12) (q0 := 0) rfl rfl)) rfl rfl hl.1 rfl (lv_room (Nat.le_of_ble_eq_true rfl)) d_Mo_format_470 ⟨by decide, by decide⟩) hS (fun q _ h => hFc q h) hFc (fun u t H locs ht hvm hw hB hz1 hk1 hS => ?_)
        obtain ⟨hP, -, hD⟩ := hB
        rw [ht] at hP
        have hD := lx_dj hD hFc
        refine lv_aload_n hx hb d_Mo_format_473 rfl (lv_at hl 1 rfl) ?_
        refine lv_iconst (v := 1) hx hb d_Mo_format_474 (by decide) ?_
        refine lv_ldc (v := 268435455) hx hb hown (hts _ (u_Mq_Mo _ k_Mo_116)) d_Mo_format_475 ?_
        obtain ⟨S_58, hc_58, h⟩ := lf_bE h
        have hFc := lx_free hD hS hA
        refine va_callv (va_runV (As := [.int 1, .int 268435455]) (rest := []) ⟨hx, hb, hml, hown, hts⟩ (l_Mo_setEntry l dC dI X _ hc_58) (cwV 2 hts (gwV good_Mq (u_Mq_Mo _ k_Mo_231) (u_Mq_Mo _ k_Mo_232) (u_Mq_Mo _ k_Mo_481) (u_Mq_Mo _ k_Mo_0) (wcs (u_Mq_Mo _ k_Mo_233) (fun _ h => h))) rfl rfl rfl (by decide +kernel) ⟨Nat.le_of_ble_eq_true rfl, Nat.le_of_ble_eq_true rfl⟩) (pv_ofE (X.same _) (fun U z1 z2 => X.mono _ _ U hFc (hEw _ _ hS U z1 z2)) hP hK hD (va_recv hK hP (ci := 12) (q0 := 0) rfl rfl)) rfl rfl hl.1 rfl (lv_room (Nat.le_of_ble_eq_true rfl)) d_Mo_format_477 ⟨by decide, by decide⟩) hS (fun q _ h => hFc q h) hFc (fun u t H locs ht hvm hw hB hz1 hk1 hS => ?_)
        obtain ⟨hP, -, hD⟩ := hB
        rw [ht] at hP
        have hD := lx_dj hD hFc
        refine lv_aload_n hx hb d_Mo_format_480 rfl (lv_at hl 1 rfl) ?_
        refine lv_iconst (v := 2) hx hb d_Mo_format_481 (by decide) ?_
        refine lv_ldc (v := 268435455) hx hb hown (hts _ (u_Mq_Mo _ k_Mo_116)) d_Mo_format_482 ?_
        obtain ⟨S_59, hc_59, h⟩ := lf_bE h
        have hFc := lx_free hD hS hA
        refine va_callv (va_runV (As := [.int 2, .int 268435455]) (rest := []) ⟨hx, hb, hml, hown, hts⟩ (l_Mo_setEntry l dC dI X _ hc_59) (cwV 2 hts (gwV good_Mq (u_Mq_Mo _ k_Mo_231) (u_Mq_Mo _ k_Mo_232) (u_Mq_Mo _ k_Mo_481) (u_Mq_Mo _ k_Mo_0) (wcs (u_Mq_Mo _ k_Mo_233) (fun _ h => h))) rfl rfl rfl (by decide +kernel) ⟨Nat.le_of_ble_eq_true rfl, Nat.le_of_ble_eq_true rfl⟩) (pv_ofE (X.same _) (fun U z1 z2 => X.mono _ _ U hFc (hEw _ _ hS U z1 z2)) hP hK hD (va_recv hK hP (ci := 12) (q0 := 0) rfl rfl)) rfl rfl hl.1 rfl (lv_room (Nat.le_of_ble_eq_true rfl)) d_Mo_format_484 ⟨by decide, by decide⟩) hS (fun q _ h => hFc q h) hFc (fun u t H locs ht hvm hw hB hz1 hk1 hS => ?_)
        obtain ⟨hP, -, hD⟩ := hB
        rw [ht] at hP
        have hD := lx_dj hD hFc
        refine lv_iload hx hb d_Mo_format_487 (lv_at hl 2 rfl) ?_
        refine lv_if_le (tgt := 570) hx hb d_Mo_format_489 (by decide) (fun c_60 => ?_) (fun c_60 => ?_)
        · have h := lf_t h c_60
          exact hB_570 r_56 S_59 _ _ _ h hP hD hS (lv_sub hl [1, 0] rfl)
        · have h := lf_f h c_60
          refine lv_aload_n hx hb d_Mo_format_492 rfl (lv_at hl 1 rfl) ?_
          refine lv_iconst (v := 2) hx hb d_Mo_format_493 (by decide) ?_
          obtain ⟨r_61, S_61, hc_61, h⟩ := lf_cE h
          have hFc := lx_free hD hS hA
          refine va_calli (va_runV (As := [.int 2]) (rest := []) ⟨hx, hb, hml, hown, hts⟩ (l_Mo_place l dC dI X _ hc_61) (cwV 1 hts (gwV good_Mq (u_Mq_Mo _ k_Mo_136) (u_Mq_Mo _ k_Mo_137) (u_Mq_Mo _ k_Mo_483) (u_Mq_Mo _ k_Mo_0) (wcs (u_Mq_Mo _ k_Mo_138) (fun _ h => h))) rfl rfl rfl (by decide +kernel) ⟨Nat.le_of_ble_eq_true rfl, Nat.le_of_ble_eq_true rfl⟩) (pv_ofE (X.same _) (fun U z1 z2 => X.mono _ _ U hFc (hEw _ _ hS U z1 z2)) hP hK hD (va_recv hK hP (ci := 12) (q0 := 0) rfl rfl)) rfl rfl hl.1 rfl (lv_room (Nat.le_of_ble_eq_true rfl)) d_Mo_format_494 ⟨by decide, by decide⟩) hS (fun q _ h => hFc q h) hFc (fun r_ u t H locs ht hvm hw hB hz1 hk1 hS => ?_)
          rw [hw]
          obtain ⟨hP, -, hD⟩ := hB
          rw [ht] at hP
          have hD := lx_dj hD hFc
          refine lv_istore (lv' := [(9, .int r_61), (8, .int r_56), (0, .ref M.o), (5, .int y_5)]) hx hb d_Mo_format_497 hl (by decide) rfl (fun ls hl => ?_)
          refine lv_iconst (v := 0) hx hb d_Mo_format_499 (by decide) ?_
          refine lv_istore (lv' := [(10, .int 0), (9, .int r_61), (8, .int r_56), (0, .ref M.o), (5, .int y_5)]) hx hb d_Mo_format_500 hl (by decide) rfl (fun ls hl => ?_)
          exact hB_502 K y_5 r_56 r_61 0 S_61 _ _ _ h hP hD hS (lv_sub hl [3, 4, 2, 1, 0] rfl)
      · have h := lf_f h c_50
        refine lv_aload_n hx hb d_Mo_format_381 rfl (lv_at hl 0 rfl) ?_
        refine va_get (D := (dC, dI)) (ci := 12) (v := .ref M.a_disk) (C := R_Mo) (T := F_Mo) (N := 66) hx hb hts (fun w h => u_Mq_Mo w (i_Mo w h)) hown hK hP 0 rfl rfl 1 (by decide) (hts _ (u_Mq_Mo _ k_Mo_8)) (fun _ h9 => h9) rfl d_Mo_format_382 ?_
        refine lv_sipush (v := 3072) hx hb d_Mo_format_385 (by decide) ?_
        refine lv_iload hx hb d_Mo_format_388 (lv_at hl 2 rfl) ?_
        refine lv_iadd hx hb d_Mo_format_390 ?_
        refine lv_aload_n hx hb d_Mo_format_391 rfl (lv_at hl 0 rfl) ?_
        refine va_get (D := (dC, dI)) (ci := 12) (v := .ref M.a_disk) (C := R_Mo) (T := F_Mo) (N := 66) hx hb hts (fun w h => u_Mq_Mo w (i_Mo w h)) hown hK hP 0 rfl rfl 1 (by decide) (hts _ (u_Mq_Mo _ k_Mo_8)) (fun _ h9 => h9) rfl d_Mo_format_392 ?_
        refine lv_iload hx hb d_Mo_format_395 (lv_at hl 2 rfl) ?_
        obtain ⟨g_62, h⟩ := lf_gE h
        refine va_bald hx hb hK hP 1 0 rfl rfl g_62 d_Mo_format_397 ?_
        obtain ⟨g_63, h⟩ := lf_gE h
        refine va_bast hx hb hK hP hD hS 1 0 rfl rfl g_63 d_Mo_format_398 (fun H locs hP hD hS => ?_)
        obtain ⟨S_64, eS_64, h⟩ := lf_lX h
        have hP := lx_newP eS_64 hP
        have hD := lx_newD eS_64 hD
        obtain ⟨x_65, ex_65, h⟩ := lf_lX h
        refine lv_iinc (v := x_65) (lv' := [(8, .int x_65), (0, .ref M.o), (5, .int y_5)]) hx hb d_Mo_format_399 hl (k := 2) rfl (by rw [ex_65]; rfl) (by decide) rfl (fun ls hl => ?_)
        refine lv_goto (tgt := 373) hx hb d_Mo_format_402 (by decide) ?_
        exact hr_373 y_5 x_65 S_64 _ _ _ h hP hD hS (lv_sub hl [1, 2, 0] rfl)
  have hB_240 : ∀ (k : Nat), ∀ (y_1 : Int32) (y_2 : Int32) (y_3 : Int32) (y_4 : Int32) (y_5 : Int32) (y_7 : Int32) (y_8 : Int32) (S : MS) (H : Heap) (locs : List Loc) (ls : Array Slot), f_Mo_format_240 K k y_1 y_2 y_3 y_4 y_5 y_7 y_8 S = some (r, S') → va_P (dC, dI) classes (wM M S) H → va_D A (wM M S) → va_S A s.heap H locs → lv_has ls 11 [(0, .ref M.o), (1, .int y_1), (2, .int y_2), (3, .int y_3), (4, .int y_4), (5, .int y_5), (7, .int y_7), (8, .int y_8)] → W p l e ({ frames := 8, cells := 0, slots := 0, locals := 241 }) s m ([.ref M.o, .int p0, .int p1, .int p2, .int p3] : List Value).toArray below meth c H locs 0 0 Q (F0 m 240 ls []) := by
    intro k
    induction k with
    | zero => intro y_1 y_2 y_3 y_4 y_5 y_7 y_8 S H locs ls h; exact lf_no h
    | succ k hr_240 =>
      intro y_1 y_2 y_3 y_4 y_5 y_7 y_8 S H locs ls h hP hD hS hl
      rw [f_Mo_format_240] at h
      refine lv_iload hx hb d_Mo_format_240 (lv_at hl 7 rfl) ?_
      refine lv_bipush (v := 11) hx hb d_Mo_format_242 (by decide) ?_
      refine lv_icmp_ge (tgt := 262) hx hb d_Mo_format_244 (by decide) (fun c_35 => ?_) (fun c_35 => ?_)
      · have h := lf_t h c_35
        refine lv_aload_n hx hb d_Mo_format_262 rfl (lv_at hl 0 rfl) ?_
        refine lv_bipush (v := 11) hx hb d_Mo_format_263 (by decide) ?_
        refine lv_iconst (v := 2) hx hb d_Mo_format_265 (by decide) ?_
        refine lv_ldc2 (v := 512) hx hb hown (hts _ (u_Mq_Mo _ k_Mo_220)) d_Mo_format_266 ?_
        obtain ⟨S_36, hc_36, h⟩ := lf_bE h
        have hFc := lx_free hD hS hA
        refine va_callv (va_runV (As := [.int 11, .int 2, .long 512]) (rest := []) ⟨hx, hb, hml, hown, hts⟩ (l_Mo_set l dC dI X _ hc_36) (cwV 3 hts (gwV good_Mq (u_Mq_Mo _ k_Mo_221) (u_Mq_Mo _ k_Mo_222) (u_Mq_Mo _ k_Mo_478) (u_Mq_Mo _ k_Mo_0) (wcs (u_Mq_Mo _ k_Mo_223) (fun _ h => h))) rfl rfl rfl (by decide +kernel) ⟨Nat.le_of_ble_eq_true rfl, Nat.le_of_ble_eq_true rfl⟩) (pv_ofE (X.same _) (fun U z1 z2 => X.mono _ _ U hFc (hEw _ _ hS U z1 z2)) hP hK hD (va_recv hK hP (ci := 12) (q0 := 0) rfl rfl)) rfl rfl hl.1 rfl (lv_room (Nat.le_of_ble_eq_true rfl)) d_Mo_format_269 ⟨by decide, by decide⟩) hS (fun q _ h => hFc q h) hFc (fun u t H locs ht hvm hw hB hz1 hk1 hS => ?_)
        obtain ⟨hP, -, hD⟩ := hB
        rw [ht] at hP
        have hD := lx_dj hD hFc
        refine lv_aload_n hx hb d_Mo_format_272 rfl (lv_at hl 0 rfl) ?_
        refine lv_bipush (v := 13) hx hb d_Mo_format_273 (by decide) ?_
        refine lv_iconst (v := 1) hx hb d_Mo_format_275 (by decide) ?_
        refine lv_iload_n hx hb d_Mo_format_276 rfl (lv_at hl 1 rfl) ?_
        refine lv_i2l hx hb d_Mo_format_277 rfl ?_
        obtain ⟨S_37, hc_37, h⟩ := lf_bE h
        have hFc := lx_free hD hS hA
        refine va_callv (va_runV (As := [.int 13, .int 1, .long y_1.toInt64]) (rest := []) ⟨hx, hb, hml, hown, hts⟩ (l_Mo_set l dC dI X _ hc_37) (cwV 3 hts (gwV good_Mq (u_Mq_Mo _ k_Mo_221) (u_Mq_Mo _ k_Mo_222) (u_Mq_Mo _ k_Mo_478) (u_Mq_Mo _ k_Mo_0) (wcs (u_Mq_Mo _ k_Mo_223) (fun _ h => h))) rfl rfl rfl (by decide +kernel) ⟨Nat.le_of_ble_eq_true rfl, Nat.le_of_ble_eq_true rfl⟩) (pv_ofE (X.same _) (fun U z1 z2 => X.mono _ _ U hFc (hEw _ _ hS U z1 z2)) hP hK hD (va_recv hK hP (ci := 12) (q0 := 0) rfl rfl)) rfl rfl hl.1 rfl (lv_room (Nat.le_of_ble_eq_true rfl)) d_Mo_format_278 ⟨by decide, by decide⟩) hS (fun q _ h => hFc q h) hFc (fun u t H locs ht hvm hw hB hz1 hk1 hS => ?_)
        obtain ⟨hP, -, hD⟩ := hB
        rw [ht] at hP
        have hD := lx_dj hD hFc
        refine lv_aload_n hx hb d_Mo_format_281 rfl (lv_at hl 0 rfl) ?_
        refine lv_bipush (v := 14) hx hb d_Mo_format_282 (by decide) ?_
        refine lv_iconst (v := 2) hx hb d_Mo_format_284 (by decide) ?_
        refine lv_iload_n hx hb d_Mo_format_285 rfl (lv_at hl 2 rfl) ?_
        refine lv_i2l hx hb d_Mo_format_286 rfl ?_
        obtain ⟨S_38, hc_38, h⟩ := lf_bE h
        have hFc := lx_free hD hS hA
        refine va_callv (va_runV (As := [.int 14, .int 2, .long y_2.toInt64]) (rest := []) ⟨hx, hb, hml, hown, hts⟩ (l_Mo_set l dC dI X _ hc_38) (cwV 3 hts (gwV good_Mq (u_Mq_Mo _ k_Mo_221) (u_Mq_Mo _ k_Mo_222) (u_Mq_Mo _ k_Mo_478) (u_Mq_Mo _ k_Mo_0) (wcs (u_Mq_Mo _ k_Mo_223) (fun _ h => h))) rfl rfl rfl (by decide +kernel) ⟨Nat.le_of_ble_eq_true rfl, Nat.le_of_ble_eq_true rfl⟩) (pv_ofE (X.same _) (fun U z1 z2 => X.mono _ _ U hFc (hEw _ _ hS U z1 z2)) hP hK hD (va_recv hK hP (ci := 12) (q0 := 0) rfl rfl)) rfl rfl hl.1 rfl (lv_room (Nat.le_of_ble_eq_true rfl)) d_Mo_format_287 ⟨by decide, by decide⟩) hS (fun q _ h => hFc q h) hFc (fun u t H locs ht hvm hw hB hz1 hk1 hS => ?_)
        obtain ⟨hP, -, hD⟩ := hB
        rw [ht] at hP
        have hD := lx_dj hD hFc
        refine lv_aload_n hx hb d_Mo_format_290 rfl (lv_at hl 0 rfl) ?_
        refine lv_bipush (v := 16) hx hb d_Mo_format_291 (by decide) ?_
        refine lv_iconst (v := 1) hx hb d_Mo_format_293 (by decide) ?_
        refine lv_iload_n hx hb d_Mo_format_294 rfl (lv_at hl 3 rfl) ?_
        refine lv_i2l hx hb d_Mo_format_295 rfl ?_
        obtain ⟨S_39, hc_39, h⟩ := lf_bE h
        have hFc := lx_free hD hS hA
        refine va_callv (va_runV (As := [.int 16, .int 1, .long y_3.toInt64]) (rest := []) ⟨hx, hb, hml, hown, hts⟩ (l_Mo_set l dC dI X _ hc_39) (cwV 3 hts (gwV good_Mq (u_Mq_Mo _ k_Mo_221) (u_Mq_Mo _ k_Mo_222) (u_Mq_Mo _ k_Mo_478) (u_Mq_Mo _ k_Mo_0) (wcs (u_Mq_Mo _ k_Mo_223) (fun _ h => h))) rfl rfl rfl (by decide +kernel) ⟨Nat.le_of_ble_eq_true rfl, Nat.le_of_ble_eq_true rfl⟩) (pv_ofE (X.same _) (fun U z1 z2 => X.mono _ _ U hFc (hEw _ _ hS U z1 z2)) hP hK hD (va_recv hK hP (ci := 12) (q0 := 0) rfl rfl)) rfl rfl hl.1 rfl (lv_room (Nat.le_of_ble_eq_true rfl)) d_Mo_format_296 ⟨by decide, by decide⟩) hS (fun q _ h => hFc q h) hFc (fun u t H locs ht hvm hw hB hz1 hk1 hS => ?_)
        obtain ⟨hP, -, hD⟩ := hB
        rw [ht] at hP
        have hD := lx_dj hD hFc
        refine lv_aload_n hx hb d_Mo_format_299 rfl (lv_at hl 0 rfl) ?_
        refine lv_bipush (v := 32) hx hb d_Mo_format_300 (by decide) ?_
        refine lv_iconst (v := 4) hx hb d_Mo_format_302 (by decide) ?_
        refine lv_aload_n hx hb d_Mo_format_303 rfl (lv_at hl 0 rfl) ?_
        refine va_get (D := (dC, dI)) (ci := 12) (v := .int S_39.v_n) (C := R_Mo) (T := F_Mo) (N := 66) hx hb hts (fun w h => u_Mq_Mo w (i_Mo w h)) hown hK hP 0 rfl rfl 0 (by decide) (hts _ (u_Mq_Mo _ k_Mo_7)) (fun _ h9 => h9) rfl d_Mo_format_304 ?_
        refine lv_i2l hx hb d_Mo_format_307 rfl ?_
        obtain ⟨S_40, hc_40, h⟩ := lf_bE h
        have hFc := lx_free hD hS hA
        refine va_callv (va_runV (As := [.int 32, .int 4, .long S_39.v_n.toInt64]) (rest := []) ⟨hx, hb, hml, hown, hts⟩ (l_Mo_set l dC dI X _ hc_40) (cwV 3 hts (gwV good_Mq (u_Mq_Mo _ k_Mo_221) (u_Mq_Mo _ k_Mo_222) (u_Mq_Mo _ k_Mo_478) (u_Mq_Mo _ k_Mo_0) (wcs (u_Mq_Mo _ k_Mo_223) (fun _ h => h))) rfl rfl rfl (by decide +kernel) ⟨Nat.le_of_ble_eq_true rfl, Nat.le_of_ble_eq_true rfl⟩) (pv_ofE (X.same _) (fun U z1 z2 => X.mono _ _ U hFc (hEw _ _ hS U z1 z2)) hP hK hD (va_recv hK hP (ci := 12) (q0 := 0) rfl rfl)) rfl rfl hl.1 rfl (lv_room (Nat.le_of_ble_eq_true rfl)) d_Mo_format_308 ⟨by decide, by decide⟩) hS (fun q _ h => hFc q h) hFc (fun u t H locs ht hvm hw hB hz1 hk1 hS => ?_)
        obtain ⟨hP, -, hD⟩ := hB
        rw [ht] at hP
        have hD := lx_dj hD hFc
        refine lv_aload_n hx hb d_Mo_format_311 rfl (lv_at hl 0 rfl) ?_
        refine lv_bipush (v := 36) hx hb d_Mo_format_312 (by decide) ?_
        refine lv_iconst (v := 4) hx hb d_Mo_format_314 (by decide) ?_
        refine lv_iload hx hb d_Mo_format_315 (lv_at hl 6 rfl) ?_
        refine lv_i2l hx hb d_Mo_format_317 rfl ?_
        obtain ⟨S_41, hc_41, h⟩ := lf_bE h
        have hFc := lx_free hD hS hA
        refine va_callv (va_runV (As := [.int 36, .int 4, .long y_7.toInt64]) (rest := []) ⟨hx, hb, hml, hown, hts⟩ (l_Mo_set l dC dI X _ hc_41) (cwV 3 hts (gwV good_Mq (u_Mq_Mo _ k_Mo_221) (u_Mq_Mo _ k_Mo_222) (u_Mq_Mo _ k_Mo_478) (u_Mq_Mo _ k_Mo_0) (wcs (u_Mq_Mo _ k_Mo_223) (fun _ h => h))) rfl rfl rfl (by decide +kernel) ⟨Nat.le_of_ble_eq_true rfl, Nat.le_of_ble_eq_true rfl⟩) (pv_ofE (X.same _) (fun U z1 z2 => X.mono _ _ U hFc (hEw _ _ hS U z1 z2)) hP hK hD (va_recv hK hP (ci := 12) (q0 := 0) rfl rfl)) rfl rfl hl.1 rfl (lv_room (Nat.le_of_ble_eq_true rfl)) d_Mo_format_318 ⟨by decide, by decide⟩) hS (fun q _ h => hFc q h) hFc (fun u t H locs ht hvm hw hB hz1 hk1 hS => ?_)
        obtain ⟨hP, -, hD⟩ := hB
        rw [ht] at hP
        have hD := lx_dj hD hFc
        refine lv_aload_n hx hb d_Mo_format_321 rfl (lv_at hl 0 rfl) ?_
        refine lv_bipush (v := 44) hx hb d_Mo_format_322 (by decide) ?_
        refine lv_iconst (v := 4) hx hb d_Mo_format_324 (by decide) ?_
        refine lv_ldc2 (v := 2) hx hb hown (hts _ (u_Mq_Mo _ k_Mo_224)) d_Mo_format_325 ?_
        obtain ⟨S_42, hc_42, h⟩ := lf_bE h
        have hFc := lx_free hD hS hA
        refine va_callv (va_runV (As := [.int 44, .int 4, .long 2]) (rest := []) ⟨hx, hb, hml, hown, hts⟩ (l_Mo_set l dC dI X _ hc_42) (cwV 3 hts (gwV good_Mq (u_Mq_Mo _ k_Mo_221) (u_Mq_Mo _ k_Mo_222) (u_Mq_Mo _ k_Mo_478) (u_Mq_Mo _ k_Mo_0) (wcs (u_Mq_Mo _ k_Mo_223) (fun _ h => h))) rfl rfl rfl (by decide +kernel) ⟨Nat.le_of_ble_eq_true rfl, Nat.le_of_ble_eq_true rfl⟩) (pv_ofE (X.same _) (fun U z1 z2 => X.mono _ _ U hFc (hEw _ _ hS U z1 z2)) hP hK hD (va_recv hK hP (ci := 12) (q0 := 0) rfl rfl)) rfl rfl hl.1 rfl (lv_room (Nat.le_of_ble_eq_true rfl)) d_Mo_format_328 ⟨by decide, by decide⟩) hS (fun q _ h => hFc q h) hFc (fun u t H locs ht hvm hw hB hz1 hk1 hS => ?_)
        obtain ⟨hP, -, hD⟩ := hB
        rw [ht] at hP
        have hD := lx_dj hD hFc
        refine lv_aload_n hx hb d_Mo_format_331 rfl (lv_at hl 0 rfl) ?_
        refine lv_bipush (v := 48) hx hb d_Mo_format_332 (by decide) ?_
        refine lv_iconst (v := 2) hx hb d_Mo_format_334 (by decide) ?_
        refine lv_lconst (v := 1) hx hb d_Mo_format_335 (by decide) ?_
        obtain ⟨S_43, hc_43, h⟩ := lf_bE h
        have hFc := lx_free hD hS hA
        refine va_callv (va_runV (As := [.int 48, .int 2, .long 1]) (rest := []) ⟨hx, hb, hml, hown, hts⟩ (l_Mo_set l dC dI X _ hc_43) (cwV 3 hts (gwV good_Mq (u_Mq_Mo _ k_Mo_221) (u_Mq_Mo _ k_Mo_222) (u_Mq_Mo _ k_Mo_478) (u_Mq_Mo _ k_Mo_0) (wcs (u_Mq_Mo _ k_Mo_223) (fun _ h => h))) rfl rfl rfl (by decide +kernel) ⟨Nat.le_of_ble_eq_true rfl, Nat.le_of_ble_eq_true rfl⟩) (pv_ofE (X.same _) (fun U z1 z2 => X.mono _ _ U hFc (hEw _ _ hS U z1 z2)) hP hK hD (va_recv hK hP (ci := 12) (q0 := 0) rfl rfl)) rfl rfl hl.1 rfl (lv_room (Nat.le_of_ble_eq_true rfl)) d_Mo_format_336 ⟨by decide, by decide⟩) hS (fun q _ h => hFc q h) hFc (fun u t H locs ht hvm hw hB hz1 hk1 hS => ?_)
        obtain ⟨hP, -, hD⟩ := hB
        rw [ht] at hP
        have hD := lx_dj hD hFc
        refine lv_aload_n hx hb d_Mo_format_339 rfl (lv_at hl 0 rfl) ?_
        refine lv_bipush (v := 50) hx hb d_Mo_format_340 (by decide) ?_
        refine lv_iconst (v := 2) hx hb d_Mo_format_342 (by decide) ?_
        refine lv_ldc2 (v := 6) hx hb hown (hts _ (u_Mq_Mo _ k_Mo_225)) d_Mo_format_343 ?_
        obtain ⟨S_44, hc_44, h⟩ := lf_bE h
        have hFc := lx_free hD hS hA
        refine va_callv (va_runV (As := [.int 50, .int 2, .long 6]) (rest := []) ⟨hx, hb, hml, hown, hts⟩ (l_Mo_set l dC dI X _ hc_44) (cwV 3 hts (gwV good_Mq (u_Mq_Mo _ k_Mo_221) (u_Mq_Mo _ k_Mo_222) (u_Mq_Mo _ k_Mo_478) (u_Mq_Mo _ k_Mo_0) (wcs (u_Mq_Mo _ k_Mo_223) (fun _ h => h))) rfl rfl rfl (by decide +kernel) ⟨Nat.le_of_ble_eq_true rfl, Nat.le_of_ble_eq_true rfl⟩) (pv_ofE (X.same _) (fun U z1 z2 => X.mono _ _ U hFc (hEw _ _ hS U z1 z2)) hP hK hD (va_recv hK hP (ci := 12) (q0 := 0) rfl rfl)) rfl rfl hl.1 rfl (lv_room (Nat.le_of_ble_eq_true rfl)) d_Mo_format_346 ⟨by decide, by decide⟩) hS (fun q _ h => hFc q h) hFc (fun u t H locs ht hvm hw hB hz1 hk1 hS => ?_)
        obtain ⟨hP, -, hD⟩ := hB
        rw [ht] at hP
        have hD := lx_dj hD hFc
        refine lv_aload_n hx hb d_Mo_format_349 rfl (lv_at hl 0 rfl) ?_
        refine lv_bipush (v := 67) hx hb d_Mo_format_350 (by decide) ?_
        refine lv_iconst (v := 4) hx hb d_Mo_format_352 (by decide) ?_
        refine lv_iload hx hb d_Mo_format_353 (lv_at hl 4 rfl) ?_
        refine lv_i2l hx hb d_Mo_format_355 rfl ?_
        obtain ⟨S_45, hc_45, h⟩ := lf_bE h
        have hFc := lx_free hD hS hA
        refine va_callv (va_runV (As := [.int 67, .int 4, .long y_4.toInt64]) (rest := []) ⟨hx, hb, hml, hown, hts⟩ (l_Mo_set l dC dI X _ hc_45) (cwV 3 hts (gwV good_Mq (u_Mq_Mo _ k_Mo_221) (u_Mq_Mo _ k_Mo_222) (u_Mq_Mo _ k_Mo_478) (u_Mq_Mo _ k_Mo_0) (wcs (u_Mq_Mo _ k_Mo_223) (fun _ h => h))) rfl rfl rfl (by decide +kernel) ⟨Nat.le_of_ble_eq_true rfl, Nat.le_of_ble_eq_true rfl⟩) (pv_ofE (X.same _) (fun U z1 z2 => X.mono _ _ U hFc (hEw _ _ hS U z1 z2)) hP hK hD (va_recv hK hP (ci := 12) (q0 := 0) rfl rfl)) rfl rfl hl.1 rfl (lv_room (Nat.le_of_ble_eq_true rfl)) d_Mo_format_356 ⟨by decide, by decide⟩) hS (fun q _ h => hFc q h) hFc (fun u t H locs ht hvm hw hB hz1 hk1 hS => ?_)
        obtain ⟨hP, -, hD⟩ := hB
        rw [ht] at hP
        have hD := lx_dj hD hFc
        refine lv_aload_n hx hb d_Mo_format_359 rfl (lv_at hl 0 rfl) ?_
        refine lv_sipush (v := 510) hx hb d_Mo_format_360 (by decide) ?_
        refine lv_iconst (v := 2) hx hb d_Mo_format_363 (by decide) ?_
        refine lv_ldc2 (v := 43605) hx hb hown (hts _ (u_Mq_Mo _ k_Mo_226)) d_Mo_format_364 ?_
        obtain ⟨S_46, hc_46, h⟩ := lf_bE h
        have hFc := lx_free hD hS hA
        refine va_callv (va_runV (As := [.int 510, .int 2, .long 43605]) (rest := []) ⟨hx, hb, hml, hown, hts⟩ (l_Mo_set l dC dI X _ hc_46) (cwV 3 hts (gwV good_Mq (u_Mq_Mo _ k_Mo_221) (u_Mq_Mo _ k_Mo_222) (u_Mq_Mo _ k_Mo_478) (u_Mq_Mo _ k_Mo_0) (wcs (u_Mq_Mo _ k_Mo_223) (fun _ h => h))) rfl rfl rfl (by decide +kernel) ⟨Nat.le_of_ble_eq_true rfl, Nat.le_of_ble_eq_true rfl⟩) (pv_ofE (X.same _) (fun U z1 z2 => X.mono _ _ U hFc (hEw _ _ hS U z1 z2)) hP hK hD (va_recv hK hP (ci := 12) (q0 := 0) rfl rfl)) rfl rfl hl.1 rfl (lv_room (Nat.le_of_ble_eq_true rfl)) d_Mo_format_367 ⟨by decide, by decide⟩) hS (fun q _ h => hFc q h) hFc (fun u t H locs ht hvm hw hB hz1 hk1 hS => ?_)
        obtain ⟨hP, -, hD⟩ := hB
        rw [ht] at hP
        have hD := lx_dj hD hFc
        refine lv_iconst (v := 0) hx hb d_Mo_format_370 (by decide) ?_
        refine lv_istore (lv' := [(8, .int 0), (0, .ref M.o), (1, .int y_1), (2, .int y_2), (3, .int y_3), (4, .int y_4), (5, .int y_5), (7, .int y_7)]) hx hb d_Mo_format_371 hl (by decide) rfl (fun ls hl => ?_)
        exact hB_373 K y_5 0 S_46 _ _ _ h hP hD hS (lv_sub hl [1, 6, 0] rfl)
      · have h := lf_f h c_35
        refine lv_aload_n hx hb d_Mo_format_247 rfl (lv_at hl 0 rfl) ?_
        refine va_get (D := (dC, dI)) (ci := 12) (v := .ref M.a_disk) (C := R_Mo) (T := F_Mo) (N := 66) hx hb hts (fun w h => u_Mq_Mo w (i_Mo w h)) hown hK hP 0 rfl rfl 1 (by decide) (hts _ (u_Mq_Mo _ k_Mo_8)) (fun _ h9 => h9) rfl d_Mo_format_248 ?_
        refine lv_iload hx hb d_Mo_format_251 (lv_at hl 7 rfl) ?_
        refine lv_bipush (v := 32) hx hb d_Mo_format_253 (by decide) ?_
        obtain ⟨g_47, h⟩ := lf_gE h
        refine va_bast hx hb hK hP hD hS 1 0 rfl rfl g_47 d_Mo_format_255 (fun H locs hP hD hS => ?_)
        obtain ⟨S_48, eS_48, h⟩ := lf_lX h
        have hP := lx_newP eS_48 hP
        have hD := lx_newD eS_48 hD
        obtain ⟨x_49, ex_49, h⟩ := lf_lX h
        refine lv_iinc (v := x_49) (lv' := [(8, .int x_49), (0, .ref M.o), (1, .int y_1), (2, .int y_2), (3, .int y_3), (4, .int y_4), (5, .int y_5), (7, .int y_7)]) hx hb d_Mo_format_256 hl (k := 7) rfl (by rw [ex_49]; rfl) (by decide) rfl (fun ls hl => ?_)
        refine lv_goto (tgt := 240) hx hb d_Mo_format_259 (by decide) ?_
        exact hr_240 y_1 y_2 y_3 y_4 y_5 y_7 x_49 S_48 _ _ _ h hP hD hS (lv_sub hl [1, 2, 3, 4, 5, 6, 7, 0] rfl)
  have hB_216 : ∀ (k : Nat), ∀ (y_1 : Int32) (y_2 : Int32) (y_3 : Int32) (y_4 : Int32) (y_5 : Int32) (y_7 : Int32) (y_8 : Int32) (S : MS) (H : Heap) (locs : List Loc) (ls : Array Slot), f_Mo_format_216 K k y_1 y_2 y_3 y_4 y_5 y_7 y_8 S = some (r, S') → va_P (dC, dI) classes (wM M S) H → va_D A (wM M S) → va_S A s.heap H locs → lv_has ls 11 [(0, .ref M.o), (1, .int y_1), (2, .int y_2), (3, .int y_3), (4, .int y_4), (5, .int y_5), (7, .int y_7), (8, .int y_8)] → W p l e ({ frames := 8, cells := 0, slots := 0, locals := 241 }) s m ([.ref M.o, .int p0, .int p1, .int p2, .int p3] : List Value).toArray below meth c H locs 0 0 Q (F0 m 216 ls []) := by
    intro k
    induction k with
    | zero => intro y_1 y_2 y_3 y_4 y_5 y_7 y_8 S H locs ls h; exact lf_no h
    | succ k hr_216 =>
      intro y_1 y_2 y_3 y_4 y_5 y_7 y_8 S H locs ls h hP hD hS hl
      rw [f_Mo_format_216] at h
      refine lv_iload hx hb d_Mo_format_216 (lv_at hl 7 rfl) ?_
      refine lv_ldc (v := 524288) hx hb hown (hts _ (u_Mq_Mo _ k_Mo_5)) d_Mo_format_218 ?_
      refine lv_icmp_ge (tgt := 237) hx hb d_Mo_format_220 (by decide) (fun c_31 => ?_) (fun c_31 => ?_)
      · have h := lf_t h c_31
        refine lv_iconst (v := 3) hx hb d_Mo_format_237 (by decide) ?_
        refine lv_istore (lv' := [(8, .int 3), (0, .ref M.o), (1, .int y_1), (2, .int y_2), (3, .int y_3), (4, .int y_4), (5, .int y_5), (7, .int y_7)]) hx hb d_Mo_format_238 hl (by decide) rfl (fun ls hl => ?_)
        exact hB_240 K y_1 y_2 y_3 y_4 y_5 y_7 3 S _ _ _ h hP hD hS (lv_sub hl [1, 2, 3, 4, 5, 6, 7, 0] rfl)
      · have h := lf_f h c_31
        refine lv_aload_n hx hb d_Mo_format_223 rfl (lv_at hl 0 rfl) ?_
        refine va_get (D := (dC, dI)) (ci := 12) (v := .ref M.a_disk) (C := R_Mo) (T := F_Mo) (N := 66) hx hb hts (fun w h => u_Mq_Mo w (i_Mo w h)) hown hK hP 0 rfl rfl 1 (by decide) (hts _ (u_Mq_Mo _ k_Mo_8)) (fun _ h9 => h9) rfl d_Mo_format_224 ?_
        refine lv_iload hx hb d_Mo_format_227 (lv_at hl 7 rfl) ?_
        refine lv_iconst (v := 0) hx hb d_Mo_format_229 (by decide) ?_
        obtain ⟨g_32, h⟩ := lf_gE h
        refine va_bast hx hb hK hP hD hS 1 0 rfl rfl g_32 d_Mo_format_230 (fun H locs hP hD hS => ?_)
        obtain ⟨S_33, eS_33, h⟩ := lf_lX h
        have hP := lx_newP eS_33 hP
        have hD := lx_newD eS_33 hD
        obtain ⟨x_34, ex_34, h⟩ := lf_lX h
        refine lv_iinc (v := x_34) (lv' := [(8, .int x_34), (0, .ref M.o), (1, .int y_1), (2, .int y_2), (3, .int y_3), (4, .int y_4), (5, .int y_5), (7, .int y_7)]) hx hb d_Mo_format_231 hl (k := 7) rfl (by rw [ex_34]; rfl) (by decide) rfl (fun ls hl => ?_)
        refine lv_goto (tgt := 216) hx hb d_Mo_format_234 (by decide) ?_
        exact hr_216 y_1 y_2 y_3 y_4 y_5 y_7 x_34 S_33 _ _ _ h hP hD hS (lv_sub hl [1, 2, 3, 4, 5, 6, 7, 0] rfl)
  have hB_204 : ∀ (y_1 : Int32) (y_2 : Int32) (y_3 : Int32) (y_4 : Int32) (y_5 : Int32) (y_7 : Int32) (z_1 : Int32) (S : MS) (H : Heap) (locs : List Loc) (ls : Array Slot), f_Mo_format_204 K y_1 y_2 y_3 y_4 y_5 y_7 z_1 S = some (r, S') → va_P (dC, dI) classes (wM M S) H → va_D A (wM M S) → va_S A s.heap H locs → lv_has ls 11 [(0, .ref M.o), (1, .int y_1), (2, .int y_2), (3, .int y_3), (4, .int y_4), (5, .int y_5), (7, .int y_7)] → W p l e ({ frames := 8, cells := 0, slots := 0, locals := 241 }) s m ([.ref M.o, .int p0, .int p1, .int p2, .int p3] : List Value).toArray below meth c H locs 0 0 Q (F0 m 204 ls [.int z_1, .ref M.o]) := by
    intro y_1 y_2 y_3 y_4 y_5 y_7 z_1 S H locs ls h hP hD hS hl
    rw [f_Mo_format_204] at h
    refine lv_iconst (v := 1) hx hb d_Mo_format_204 (by decide) ?_
    obtain ⟨r_29, S_29, hc_29, h⟩ := lf_cE h
    have hFc := lx_free hD hS hA
    refine va_calli (va_runV (As := [.int z_1, .int 1]) (rest := []) ⟨hx, hb, hml, hown, hts⟩ (l_Mo_fails l dC dI X _ hc_29) (cwV 2 hts (gwV good_Mq (u_Mq_Mo _ k_Mo_217) (u_Mq_Mo _ k_Mo_218) (u_Mq_Mo _ k_Mo_474) (u_Mq_Mo _ k_Mo_0) (wcs (u_Mq_Mo _ k_Mo_219) (fun _ h => h))) rfl rfl rfl (by decide +kernel) ⟨Nat.le_of_ble_eq_true rfl, Nat.le_of_ble_eq_true rfl⟩) (pv_ofE (X.same _) (fun U z1 z2 => X.mono _ _ U hFc (hEw _ _ hS U z1 z2)) hP hK hD (va_recv hK hP (ci := 12) (q0 := 0) rfl rfl)) rfl rfl hl.1 rfl (lv_room (Nat.le_of_ble_eq_true rfl)) d_Mo_format_205 ⟨by decide, by decide⟩) hS (fun q _ h => hFc q h) hFc (fun r_ u t H locs ht hvm hw hB hz1 hk1 hS => ?_)
    rw [hw]
    obtain ⟨hP, -, hD⟩ := hB
    rw [ht] at hP
    have hD := lx_dj hD hFc
    refine lv_if_eq (tgt := 213) hx hb d_Mo_format_208 (by decide) (fun c_30 => ?_) (fun c_30 => ?_)
    · have h := lf_t h c_30
      refine lv_iconst (v := 0) hx hb d_Mo_format_213 (by decide) ?_
      refine lv_istore (lv' := [(8, .int 0), (0, .ref M.o), (1, .int y_1), (2, .int y_2), (3, .int y_3), (4, .int y_4), (5, .int y_5), (7, .int y_7)]) hx hb d_Mo_format_214 hl (by decide) rfl (fun ls hl => ?_)
      exact hB_216 K y_1 y_2 y_3 y_4 y_5 y_7 0 S_29 _ _ _ h hP hD hS (lv_sub hl [1, 2, 3, 4, 5, 6, 7, 0] rfl)
    · have h := lf_f h c_30
      refine lv_iconst (v := 0) hx hb d_Mo_format_211 (by decide) ?_
      rw [hQ]
      have e1 : (0 : Int32) = r := congrArg Prod.fst (Option.some.inj h)
      have e2 : S_29 = S' := congrArg Prod.snd (Option.some.inj h)
      have hP := lx_newP e2.symm hP
      have hD := lx_newD e2.symm hD
      exact W.iret (v := 0) hx hb hr (fun t ht hW => ⟨⟨0, (), rfl, e1, by rw [ht]; exact hP, va_K.moved hW.alike hK, hD⟩, hS.F ht⟩) hS.2.2 d_Mo_format_212
  have hB_199 : ∀ (y_1 : Int32) (y_2 : Int32) (y_3 : Int32) (y_4 : Int32) (y_5 : Int32) (y_7 : Int32) (S : MS) (H : Heap) (locs : List Loc) (ls : Array Slot), f_Mo_format_199 K y_1 y_2 y_3 y_4 y_5 y_7 S = some (r, S') → va_P (dC, dI) classes (wM M S) H → va_D A (wM M S) → va_S A s.heap H locs → lv_has ls 11 [(0, .ref M.o), (1, .int y_1), (2, .int y_2), (3, .int y_3), (4, .int y_4), (5, .int y_5), (7, .int y_7)] → W p l e ({ frames := 8, cells := 0, slots := 0, locals := 241 }) s m ([.ref M.o, .int p0, .int p1, .int p2, .int p3] : List Value).toArray below meth c H locs 0 0 Q (F0 m 199 ls [.ref M.o]) := by
    intro y_1 y_2 y_3 y_4 y_5 y_7 S H locs ls h hP hD hS hl
    rw [f_Mo_format_199] at h
    refine lv_iconst (v := 1) hx hb d_Mo_format_199 (by decide) ?_
    refine lv_goto (tgt := 204) hx hb d_Mo_format_200 (by decide) ?_
    exact hB_204 y_1 y_2 y_3 y_4 y_5 y_7 1 S _ _ _ h hP hD hS (lv_sub hl [0, 1, 2, 3, 4, 5, 6] rfl)
  have hB_186 : ∀ (y_1 : Int32) (y_2 : Int32) (y_3 : Int32) (y_4 : Int32) (y_5 : Int32) (y_6 : Int32) (y_7 : Int32) (S : MS) (H : Heap) (locs : List Loc) (ls : Array Slot), f_Mo_format_186 K y_1 y_2 y_3 y_4 y_5 y_6 y_7 S = some (r, S') → va_P (dC, dI) classes (wM M S) H → va_D A (wM M S) → va_S A s.heap H locs → lv_has ls 11 [(0, .ref M.o), (1, .int y_1), (2, .int y_2), (3, .int y_3), (4, .int y_4), (5, .int y_5), (6, .int y_6), (7, .int y_7)] → W p l e ({ frames := 8, cells := 0, slots := 0, locals := 241 }) s m ([.ref M.o, .int p0, .int p1, .int p2, .int p3] : List Value).toArray below meth c H locs 0 0 Q (F0 m 186 ls []) := by
    intro y_1 y_2 y_3 y_4 y_5 y_6 y_7 S H locs ls h hP hD hS hl
    rw [f_Mo_format_186] at h
    refine lv_aload_n hx hb d_Mo_format_186 rfl (lv_at hl 0 rfl) ?_
    refine lv_iload hx hb d_Mo_format_187 (lv_at hl 6 rfl) ?_
    refine lv_if_eq (tgt := 199) hx hb d_Mo_format_189 (by decide) (fun c_26 => ?_) (fun c_26 => ?_)
    · have h := lf_t h c_26
      exact hB_199 y_1 y_2 y_3 y_4 y_5 y_7 S _ _ _ h hP hD hS (lv_sub hl [0, 1, 2, 3, 4, 5, 7] rfl)
    · have h := lf_f h c_26
      refine lv_iload hx hb d_Mo_format_192 (lv_at hl 7 rfl) ?_
      refine lv_bipush (v := 32) hx hb d_Mo_format_194 (by decide) ?_
      refine lv_icmp_le (tgt := 203) hx hb d_Mo_format_196 (by decide) (fun c_27 => ?_) (fun c_27 => ?_)
      · have h := lf_t h c_27
        refine lv_iconst (v := 0) hx hb d_Mo_format_203 (by decide) ?_
        exact hB_204 y_1 y_2 y_3 y_4 y_5 y_7 0 S _ _ _ h hP hD hS (lv_sub hl [0, 1, 2, 3, 4, 5, 7] rfl)
      · have h := lf_f h c_27
        exact hB_199 y_1 y_2 y_3 y_4 y_5 y_7 S _ _ _ h hP hD hS (lv_sub hl [0, 1, 2, 3, 4, 5, 7] rfl)
  have hB_127 : ∀ (k : Nat), ∀ (y_1 : Int32) (y_2 : Int32) (y_3 : Int32) (y_4 : Int32) (y_5 : Int32) (y_6 : Int32) (y_7 : Int32) (S : MS) (H : Heap) (locs : List Loc) (ls : Array Slot), f_Mo_format_127 K k y_1 y_2 y_3 y_4 y_5 y_6 y_7 S = some (r, S') → va_P (dC, dI) classes (wM M S) H → va_D A (wM M S) → va_S A s.heap H locs → lv_has ls 11 [(0, .ref M.o), (1, .int y_1), (2, .int y_2), (3, .int y_3), (4, .int y_4), (5, .int y_5), (6, .int y_6), (7, .int y_7)] → W p l e ({ frames := 8, cells := 0, slots := 0, locals := 241 }) s m ([.ref M.o, .int p0, .int p1, .int p2, .int p3] : List Value).toArray below meth c H locs 0 0 Q (F0 m 127 ls []) := by
    intro k
    induction k with
    | zero => intro y_1 y_2 y_3 y_4 y_5 y_6 y_7 S H locs ls h; exact lf_no h
    | succ k hr_127 =>
      intro y_1 y_2 y_3 y_4 y_5 y_6 y_7 S H locs ls h hP hD hS hl
      rw [f_Mo_format_127] at h
      refine lv_iload hx hb d_Mo_format_127 (lv_at hl 6 rfl) ?_
      refine lv_if_eq (tgt := 186) hx hb d_Mo_format_129 (by decide) (fun c_20 => ?_) (fun c_20 => ?_)
      · have h := lf_t h c_20
        exact hB_186 y_1 y_2 y_3 y_4 y_5 y_6 y_7 S _ _ _ h hP hD hS (lv_sub hl [0, 1, 2, 3, 4, 5, 6, 7] rfl)
      · have h := lf_f h c_20
        refine lv_iload hx hb d_Mo_format_132 (lv_at hl 7 rfl) ?_
        refine lv_bipush (v := 33) hx hb d_Mo_format_134 (by decide) ?_
        refine lv_icmp_ge (tgt := 186) hx hb d_Mo_format_136 (by decide) (fun c_21 => ?_) (fun c_21 => ?_)
        · have h := lf_t h c_21
          exact hB_186 y_1 y_2 y_3 y_4 y_5 y_6 y_7 S _ _ _ h hP hD hS (lv_sub hl [0, 1, 2, 3, 4, 5, 6, 7] rfl)
        · have h := lf_f h c_21
          refine lv_aload_n hx hb d_Mo_format_139 rfl (lv_at hl 0 rfl) ?_
          refine va_get (D := (dC, dI)) (ci := 12) (v := .int S.v_n) (C := R_Mo) (T := F_Mo) (N := 66) hx hb hts (fun w h => u_Mq_Mo w (i_Mo w h)) hown hK hP 0 rfl rfl 0 (by decide) (hts _ (u_Mq_Mo _ k_Mo_7)) (fun _ h9 => h9) rfl d_Mo_format_140 ?_
          refine lv_iload_n hx hb d_Mo_format_143 rfl (lv_at hl 2 rfl) ?_
          refine lv_isub hx hb d_Mo_format_144 ?_
          refine lv_iload_n hx hb d_Mo_format_145 rfl (lv_at hl 3 rfl) ?_
          refine lv_iload hx hb d_Mo_format_146 (lv_at hl 7 rfl) ?_
          refine lv_imul hx hb d_Mo_format_148 ?_
          refine lv_isub hx hb d_Mo_format_149 ?_
          refine lv_iload_n hx hb d_Mo_format_150 rfl (lv_at hl 1 rfl) ?_
          obtain ⟨g_22, h⟩ := lf_gE h
          refine lv_idiv hx hb d_Mo_format_151 g_22 ?_
          refine lv_iconst (v := 4) hx hb d_Mo_format_152 (by decide) ?_
          refine lv_icmp_lt (tgt := 180) hx hb d_Mo_format_153 (by decide) (fun c_23 => ?_) (fun c_23 => ?_)
          · have h := lf_t h c_23
            exact hB_180 _ hr_127 y_1 y_2 y_3 y_4 y_5 y_6 y_7 S _ _ _ h hP hD hS (lv_sub hl [0, 1, 2, 3, 4, 5, 6, 7] rfl)
          · have h := lf_f h c_23
            refine lv_sipush (v := 128) hx hb d_Mo_format_156 (by decide) ?_
            refine lv_iload hx hb d_Mo_format_159 (lv_at hl 7 rfl) ?_
            refine lv_imul hx hb d_Mo_format_161 ?_
            refine lv_aload_n hx hb d_Mo_format_162 rfl (lv_at hl 0 rfl) ?_
            refine va_get (D := (dC, dI)) (ci := 12) (v := .int S.v_n) (C := R_Mo) (T := F_Mo) (N := 66) hx hb hts (fun w h => u_Mq_Mo w (i_Mo w h)) hown hK hP 0 rfl rfl 0 (by decide) (hts _ (u_Mq_Mo _ k_Mo_7)) (fun _ h9 => h9) rfl d_Mo_format_163 ?_
            refine lv_iload_n hx hb d_Mo_format_166 rfl (lv_at hl 2 rfl) ?_
            refine lv_isub hx hb d_Mo_format_167 ?_
            refine lv_iload_n hx hb d_Mo_format_168 rfl (lv_at hl 3 rfl) ?_
            refine lv_iload hx hb d_Mo_format_169 (lv_at hl 7 rfl) ?_
            refine lv_imul hx hb d_Mo_format_171 ?_
            refine lv_isub hx hb d_Mo_format_172 ?_
            refine lv_iload_n hx hb d_Mo_format_173 rfl (lv_at hl 1 rfl) ?_
            obtain ⟨g_24, h⟩ := lf_gE h
            refine lv_idiv hx hb d_Mo_format_174 g_24 ?_
            refine lv_iconst (v := 2) hx hb d_Mo_format_175 (by decide) ?_
            refine lv_iadd hx hb d_Mo_format_176 ?_
            refine lv_icmp_ge (tgt := 186) hx hb d_Mo_format_177 (by decide) (fun c_25 => ?_) (fun c_25 => ?_)
            · have h := lf_t h c_25
              exact hB_186 y_1 y_2 y_3 y_4 y_5 y_6 y_7 S _ _ _ h hP hD hS (lv_sub hl [0, 1, 2, 3, 4, 5, 6, 7] rfl)
            · have h := lf_f h c_25
              exact hB_180 _ hr_127 y_1 y_2 y_3 y_4 y_5 y_6 y_7 S _ _ _ h hP hD hS (lv_sub hl [0, 1, 2, 3, 4, 5, 6, 7] rfl)
  have hB_124 : ∀ (y_1 : Int32) (y_2 : Int32) (y_3 : Int32) (y_4 : Int32) (y_5 : Int32) (y_6 : Int32) (S : MS) (H : Heap) (locs : List Loc) (ls : Array Slot), f_Mo_format_124 K y_1 y_2 y_3 y_4 y_5 y_6 S = some (r, S') → va_P (dC, dI) classes (wM M S) H → va_D A (wM M S) → va_S A s.heap H locs → lv_has ls 11 [(0, .ref M.o), (1, .int y_1), (2, .int y_2), (3, .int y_3), (4, .int y_4), (5, .int y_5), (6, .int y_6)] → W p l e ({ frames := 8, cells := 0, slots := 0, locals := 241 }) s m ([.ref M.o, .int p0, .int p1, .int p2, .int p3] : List Value).toArray below meth c H locs 0 0 Q (F0 m 124 ls []) := by
    intro y_1 y_2 y_3 y_4 y_5 y_6 S H locs ls h hP hD hS hl
    rw [f_Mo_format_124] at h
    refine lv_iconst (v := 1) hx hb d_Mo_format_124 (by decide) ?_
    refine lv_istore (lv' := [(7, .int 1), (0, .ref M.o), (1, .int y_1), (2, .int y_2), (3, .int y_3), (4, .int y_4), (5, .int y_5), (6, .int y_6)]) hx hb d_Mo_format_125 hl (by decide) rfl (fun ls hl => ?_)
    exact hB_127 K y_1 y_2 y_3 y_4 y_5 y_6 1 S _ _ _ h hP hD hS (lv_sub hl [1, 2, 3, 4, 5, 6, 7, 0] rfl)
  have hB_71 : ∀ (k : Nat), ∀ (y_1 : Int32) (y_2 : Int32) (y_3 : Int32) (y_4 : Int32) (y_5 : Int32) (y_6 : Int32) (y_7 : Int32) (S : MS) (H : Heap) (locs : List Loc) (ls : Array Slot), f_Mo_format_71 K k y_1 y_2 y_3 y_4 y_5 y_6 y_7 S = some (r, S') → va_P (dC, dI) classes (wM M S) H → va_D A (wM M S) → va_S A s.heap H locs → lv_has ls 11 [(0, .ref M.o), (1, .int y_1), (2, .int y_2), (3, .int y_3), (4, .int y_4), (5, .int y_5), (6, .int y_6), (7, .int y_7)] → W p l e ({ frames := 8, cells := 0, slots := 0, locals := 241 }) s m ([.ref M.o, .int p0, .int p1, .int p2, .int p3] : List Value).toArray below meth c H locs 0 0 Q (F0 m 71 ls []) := by
    intro k
    induction k with
    | zero => intro y_1 y_2 y_3 y_4 y_5 y_6 y_7 S H locs ls h; exact lf_no h
    | succ k hr_71 =>
      intro y_1 y_2 y_3 y_4 y_5 y_6 y_7 S H locs ls h hP hD hS hl
      rw [f_Mo_format_71] at h
      refine lv_iload hx hb d_Mo_format_71 (lv_at hl 7 rfl) ?_
      refine lv_iload hx hb d_Mo_format_73 (lv_at hl 5 rfl) ?_
      refine lv_icmp_ge (tgt := 124) hx hb d_Mo_format_75 (by decide) (fun c_12 => ?_) (fun c_12 => ?_)
      · have h := lf_t h c_12
        exact hB_124 y_1 y_2 y_3 y_4 y_5 y_6 S _ _ _ h hP hD hS (lv_sub hl [0, 1, 2, 3, 4, 5, 6] rfl)
      · have h := lf_f h c_12
        refine lv_iload hx hb d_Mo_format_78 (lv_at hl 6 rfl) ?_
        refine lv_if_eq (tgt := 124) hx hb d_Mo_format_80 (by decide) (fun c_13 => ?_) (fun c_13 => ?_)
        · have h := lf_t h c_13
          exact hB_124 y_1 y_2 y_3 y_4 y_5 y_6 S _ _ _ h hP hD hS (lv_sub hl [0, 1, 2, 3, 4, 5, 6] rfl)
        · have h := lf_f h c_13
          refine lv_aload_n hx hb d_Mo_format_83 rfl (lv_at hl 0 rfl) ?_
          refine lv_iload hx hb d_Mo_format_84 (lv_at hl 7 rfl) ?_
          obtain ⟨r_14, S_14, hc_14, h⟩ := lf_cE h
          have hFc := lx_free hD hS hA
          refine va_calli (va_runV (As := [.int y_7]) (rest := []) ⟨hx, hb, hml, hown, hts⟩ (l_Mo_taken l dC dI X _ hc_14) (cwV 1 hts (gwV good_Mq (u_Mq_Mo _ k_Mo_214) (u_Mq_Mo _ k_Mo_215) (u_Mq_Mo _ k_Mo_505) (u_Mq_Mo _ k_Mo_0) (wcs (u_Mq_Mo _ k_Mo_216) (fun _ h => h))) rfl rfl rfl (by decide +kernel) ⟨Nat.le_of_ble_eq_true rfl, Nat.le_of_ble_eq_true rfl⟩) (pv_ofE (X.same _) (fun U z1 z2 => X.mono _ _ U hFc (hEw _ _ hS U z1 z2)) hP hK hD (va_recv hK hP (ci := 12) (q0 := 0) rfl rfl)) rfl rfl hl.1 rfl (lv_room (Nat.le_of_ble_eq_true rfl)) d_Mo_format_86 ⟨by decide, by decide⟩) hS (fun q _ h => hFc q h) hFc (fun r_ u t H locs ht hvm hw hB hz1 hk1 hS => ?_)
          rw [hw]
          obtain ⟨hP, -, hD⟩ := hB
          rw [ht] at hP
          have hD := lx_dj hD hFc
          refine lv_bipush (v := 32) hx hb d_Mo_format_89 (by decide) ?_
          refine lv_icmp_ne (tgt := 107) hx hb d_Mo_format_91 (by decide) (fun c_15 => ?_) (fun c_15 => ?_)
          · have h := lf_f h c_15
            refine lv_aload_n hx hb d_Mo_format_107 rfl (lv_at hl 0 rfl) ?_
            refine lv_iload hx hb d_Mo_format_108 (lv_at hl 7 rfl) ?_
            obtain ⟨r_16, S_16, hc_16, h⟩ := lf_cE h
            have hFc := lx_free hD hS hA
            refine va_calli (va_runV (As := [.int y_7]) (rest := []) ⟨hx, hb, hml, hown, hts⟩ (l_Mo_taken l dC dI X _ hc_16) (cwV 1 hts (gwV good_Mq (u_Mq_Mo _ k_Mo_214) (u_Mq_Mo _ k_Mo_215) (u_Mq_Mo _ k_Mo_505) (u_Mq_Mo _ k_Mo_0) (wcs (u_Mq_Mo _ k_Mo_216) (fun _ h => h))) rfl rfl rfl (by decide +kernel) ⟨Nat.le_of_ble_eq_true rfl, Nat.le_of_ble_eq_true rfl⟩) (pv_ofE (X.same _) (fun U z1 z2 => X.mono _ _ U hFc (hEw _ _ hS U z1 z2)) hP hK hD (va_recv hK hP (ci := 12) (q0 := 0) rfl rfl)) rfl rfl hl.1 rfl (lv_room (Nat.le_of_ble_eq_true rfl)) d_Mo_format_110 ⟨by decide, by decide⟩) hS (fun q _ h => hFc q h) hFc (fun r_ u t H locs ht hvm hw hB hz1 hk1 hS => ?_)
            rw [hw]
            obtain ⟨hP, -, hD⟩ := hB
            rw [ht] at hP
            have hD := lx_dj hD hFc
            obtain ⟨r_17, hc_17, h⟩ := lf_bE h
            have hFc := lx_free0 hS hA
            refine va_calli (va_runS (As := [.int r_16]) (rest := []) ⟨hx, hb, hml, hown, hts⟩ (l_Mo_isShortSign l dC dI X _ hc_17) (va_cwS 1 hts (gwS good_Mq (u_Mq_Mo _ k_Mo_167) (u_Mq_Mo _ k_Mo_168) (u_Mq_Mo _ k_Mo_0) (wcs (u_Mq_Mo _ k_Mo_169) (fun _ h => h))) rfl rfl rfl (by decide +kernel) ⟨Nat.le_of_ble_eq_true rfl, Nat.le_of_ble_eq_true rfl⟩) (ps_ofE2 (W := []) (tys := []) (X.same _) (fun U z1 z2 => X.mono _ _ U hFc (hEw _ _ hS U z1 z2)) (hP.sub (ws' := []) [] rfl) (hK.sub [] rfl) (hD.sub (ws' := []) [] (by decide) rfl)) rfl rfl hl.1 rfl (lv_room (Nat.le_of_ble_eq_true rfl)) d_Mo_format_113 ⟨by decide, by decide⟩) hS (fun q _ h => hFc q h) hFc (fun r_ u t H locs ht hvm hw hB hz1 hk1 hS => ?_)
            rw [hw]
            have hP := lx_stat (A := A) hP hk1
            exact hB_116 _ hr_71 y_1 y_2 y_3 y_4 y_5 y_7 r_17 S_16 _ _ _ h hP hD hS (lv_sub hl [0, 1, 2, 3, 4, 5, 7] rfl)
          · have h := lf_t h c_15
            refine lv_iload hx hb d_Mo_format_94 (lv_at hl 7 rfl) ?_
            refine lv_if_le (tgt := 103) hx hb d_Mo_format_96 (by decide) (fun c_18 => ?_) (fun c_18 => ?_)
            · have h := lf_t h c_18
              refine lv_iconst (v := 0) hx hb d_Mo_format_103 (by decide) ?_
              refine lv_goto (tgt := 116) hx hb d_Mo_format_104 (by decide) ?_
              exact hB_116 _ hr_71 y_1 y_2 y_3 y_4 y_5 y_7 0 S_14 _ _ _ h hP hD hS (lv_sub hl [0, 1, 2, 3, 4, 5, 7] rfl)
            · have h := lf_f h c_18
              refine lv_iconst (v := 1) hx hb d_Mo_format_99 (by decide) ?_
              refine lv_goto (tgt := 116) hx hb d_Mo_format_100 (by decide) ?_
              exact hB_116 _ hr_71 y_1 y_2 y_3 y_4 y_5 y_7 1 S_14 _ _ _ h hP hD hS (lv_sub hl [0, 1, 2, 3, 4, 5, 7] rfl)
  have hB_66 : ∀ (y_1 : Int32) (y_2 : Int32) (y_3 : Int32) (y_4 : Int32) (y_5 : Int32) (z_0 : Int32) (S : MS) (H : Heap) (locs : List Loc) (ls : Array Slot), f_Mo_format_66 K y_1 y_2 y_3 y_4 y_5 z_0 S = some (r, S') → va_P (dC, dI) classes (wM M S) H → va_D A (wM M S) → va_S A s.heap H locs → lv_has ls 11 [(0, .ref M.o), (1, .int y_1), (2, .int y_2), (3, .int y_3), (4, .int y_4), (5, .int y_5)] → W p l e ({ frames := 8, cells := 0, slots := 0, locals := 241 }) s m ([.ref M.o, .int p0, .int p1, .int p2, .int p3] : List Value).toArray below meth c H locs 0 0 Q (F0 m 66 ls [.int z_0]) := by
    intro y_1 y_2 y_3 y_4 y_5 z_0 S H locs ls h hP hD hS hl
    rw [f_Mo_format_66] at h
    refine lv_istore (lv' := [(6, .int z_0), (0, .ref M.o), (1, .int y_1), (2, .int y_2), (3, .int y_3), (4, .int y_4), (5, .int y_5)]) hx hb d_Mo_format_66 hl (by decide) rfl (fun ls hl => ?_)
    refine lv_iconst (v := 0) hx hb d_Mo_format_68 (by decide) ?_
    refine lv_istore (lv' := [(7, .int 0), (6, .int z_0), (0, .ref M.o), (1, .int y_1), (2, .int y_2), (3, .int y_3), (4, .int y_4), (5, .int y_5)]) hx hb d_Mo_format_69 hl (by decide) rfl (fun ls hl => ?_)
    exact hB_71 K y_1 y_2 y_3 y_4 y_5 z_0 0 S _ _ _ h hP hD hS (lv_sub hl [2, 3, 4, 5, 6, 7, 1, 0] rfl)
  have hB_65 : ∀ (y_1 : Int32) (y_2 : Int32) (y_3 : Int32) (y_4 : Int32) (y_5 : Int32) (S : MS) (H : Heap) (locs : List Loc) (ls : Array Slot), f_Mo_format_65 K y_1 y_2 y_3 y_4 y_5 S = some (r, S') → va_P (dC, dI) classes (wM M S) H → va_D A (wM M S) → va_S A s.heap H locs → lv_has ls 11 [(0, .ref M.o), (1, .int y_1), (2, .int y_2), (3, .int y_3), (4, .int y_4), (5, .int y_5)] → W p l e ({ frames := 8, cells := 0, slots := 0, locals := 241 }) s m ([.ref M.o, .int p0, .int p1, .int p2, .int p3] : List Value).toArray below meth c H locs 0 0 Q (F0 m 65 ls []) := by
    intro y_1 y_2 y_3 y_4 y_5 S H locs ls h hP hD hS hl
    rw [f_Mo_format_65] at h
    refine lv_iconst (v := 0) hx hb d_Mo_format_65 (by decide) ?_
    exact hB_66 y_1 y_2 y_3 y_4 y_5 0 S _ _ _ h hP hD hS (lv_sub hl [0, 1, 2, 3, 4, 5] rfl)
  have hB_54 : ∀ (y_1 : Int32) (y_2 : Int32) (y_3 : Int32) (y_4 : Int32) (y_5 : Int32) (S : MS) (H : Heap) (locs : List Loc) (ls : Array Slot), f_Mo_format_54 K y_1 y_2 y_3 y_4 y_5 S = some (r, S') → va_P (dC, dI) classes (wM M S) H → va_D A (wM M S) → va_S A s.heap H locs → lv_has ls 11 [(0, .ref M.o), (1, .int y_1), (2, .int y_2), (3, .int y_3), (4, .int y_4), (5, .int y_5)] → W p l e ({ frames := 8, cells := 0, slots := 0, locals := 241 }) s m ([.ref M.o, .int p0, .int p1, .int p2, .int p3] : List Value).toArray below meth c H locs 0 0 Q (F0 m 54 ls []) := by
    intro y_1 y_2 y_3 y_4 y_5 S H locs ls h hP hD hS hl
    rw [f_Mo_format_54] at h
    refine lv_iload hx hb d_Mo_format_54 (lv_at hl 5 rfl) ?_
    refine lv_bipush (v := 11) hx hb d_Mo_format_56 (by decide) ?_
    refine lv_icmp_gt (tgt := 65) hx hb d_Mo_format_58 (by decide) (fun c_11 => ?_) (fun c_11 => ?_)
    · have h := lf_t h c_11
      exact hB_65 y_1 y_2 y_3 y_4 y_5 S _ _ _ h hP hD hS (lv_sub hl [0, 1, 2, 3, 4, 5] rfl)
    · have h := lf_f h c_11
      refine lv_iconst (v := 1) hx hb d_Mo_format_61 (by decide) ?_
      refine lv_goto (tgt := 66) hx hb d_Mo_format_62 (by decide) ?_
      exact hB_66 y_1 y_2 y_3 y_4 y_5 1 S _ _ _ h hP hD hS (lv_sub hl [0, 1, 2, 3, 4, 5] rfl)
  have hB_32 : ∀ (y_1 : Int32) (y_2 : Int32) (y_3 : Int32) (y_4 : Int32) (y_5 : Int32) (S : MS) (H : Heap) (locs : List Loc) (ls : Array Slot), f_Mo_format_32 K y_1 y_2 y_3 y_4 y_5 S = some (r, S') → va_P (dC, dI) classes (wM M S) H → va_D A (wM M S) → va_S A s.heap H locs → lv_has ls 11 [(0, .ref M.o), (1, .int y_1), (2, .int y_2), (3, .int y_3), (4, .int y_4), (5, .int y_5)] → W p l e ({ frames := 8, cells := 0, slots := 0, locals := 241 }) s m ([.ref M.o, .int p0, .int p1, .int p2, .int p3] : List Value).toArray below meth c H locs 0 0 Q (F0 m 32 ls []) := by
    intro y_1 y_2 y_3 y_4 y_5 S H locs ls h hP hD hS hl
    rw [f_Mo_format_32] at h
    refine lv_iload_n hx hb d_Mo_format_32 rfl (lv_at hl 2 rfl) ?_
    refine lv_bipush (v := 8) hx hb d_Mo_format_33 (by decide) ?_
    refine lv_icmp_lt (tgt := 65) hx hb d_Mo_format_35 (by decide) (fun c_7 => ?_) (fun c_7 => ?_)
    · have h := lf_t h c_7
      exact hB_65 y_1 y_2 y_3 y_4 y_5 S _ _ _ h hP hD hS (lv_sub hl [0, 1, 2, 3, 4, 5] rfl)
    · have h := lf_f h c_7
      refine lv_iload_n hx hb d_Mo_format_38 rfl (lv_at hl 2 rfl) ?_
      refine lv_bipush (v := 64) hx hb d_Mo_format_39 (by decide) ?_
      refine lv_icmp_gt (tgt := 65) hx hb d_Mo_format_41 (by decide) (fun c_8 => ?_) (fun c_8 => ?_)
      · have h := lf_t h c_8
        exact hB_65 y_1 y_2 y_3 y_4 y_5 S _ _ _ h hP hD hS (lv_sub hl [0, 1, 2, 3, 4, 5] rfl)
      · have h := lf_f h c_8
        refine lv_iload_n hx hb d_Mo_format_44 rfl (lv_at hl 3 rfl) ?_
        refine lv_iconst (v := 1) hx hb d_Mo_format_45 (by decide) ?_
        refine lv_icmp_eq (tgt := 54) hx hb d_Mo_format_46 (by decide) (fun c_9 => ?_) (fun c_9 => ?_)
        · have h := lf_t h c_9
          exact hB_54 y_1 y_2 y_3 y_4 y_5 S _ _ _ h hP hD hS (lv_sub hl [0, 1, 2, 3, 4, 5] rfl)
        · have h := lf_f h c_9
          refine lv_iload_n hx hb d_Mo_format_49 rfl (lv_at hl 3 rfl) ?_
          refine lv_iconst (v := 2) hx hb d_Mo_format_50 (by decide) ?_
          refine lv_icmp_ne (tgt := 65) hx hb d_Mo_format_51 (by decide) (fun c_10 => ?_) (fun c_10 => ?_)
          · have h := lf_f h c_10
            exact hB_65 y_1 y_2 y_3 y_4 y_5 S _ _ _ h hP hD hS (lv_sub hl [0, 1, 2, 3, 4, 5] rfl)
          · have h := lf_t h c_10
            exact hB_54 y_1 y_2 y_3 y_4 y_5 S _ _ _ h hP hD hS (lv_sub hl [0, 1, 2, 3, 4, 5] rfl)
  rw [f_Mo_format] at h
  refine lv_aload_n hx hb d_Mo_format_0 rfl (lv_at hl 0 rfl) ?_
  refine lv_iconst (v := 0) hx hb d_Mo_format_1 (by decide) ?_
  refine va_put (D := (dC, dI)) (ci := 12) (v := .int 0) (ty := .int) (C := R_Mo) (T := F_Mo) (N := 66) hx hb hts (fun w h => u_Mq_Mo w (i_Mo w h)) t_Mo t_Mo_ok n_Mo hown hK hP hD hS 0 rfl rfl 6 (by decide) (hts _ (u_Mq_Mo _ k_Mo_13)) (fun _ h9 => h9) rfl (by decide +kernel) rfl rfl (Nat.le_of_ble_eq_true rfl) d_Mo_format_2 (fun H locs hP hD hS => ?_)
  obtain ⟨S_1, eS_1, h⟩ := lf_lX h
  have hP := lx_newP eS_1 hP
  have hD := lx_newD eS_1 hD
  refine lv_aload_n hx hb d_Mo_format_5 rfl (lv_at hl 0 rfl) ?_
  refine va_get (D := (dC, dI)) (ci := 12) (v := .int S_1.v_taped) (C := R_Mo) (T := F_Mo) (N := 66) hx hb hts (fun w h => u_Mq_Mo w (i_Mo w h)) hown hK hP 0 rfl rfl 5 (by decide) (hts _ (u_Mq_Mo _ k_Mo_12)) (fun _ h9 => h9) rfl d_Mo_format_6 ?_
  refine lv_topi (fun x_2 ex_2 => ?_)
  have h := lf_lE h ex_2
  refine lv_istore (lv' := [(5, .int x_2), (0, .ref M.o), (1, .int p0), (2, .int p1), (3, .int p2), (4, .int p3)]) hx hb d_Mo_format_9 hl (by decide) rfl (fun ls hl => ?_)
  refine lv_aload_n hx hb d_Mo_format_11 rfl (lv_at hl 1 rfl) ?_
  refine lv_iconst (v := 0) hx hb d_Mo_format_12 (by decide) ?_
  refine va_put (D := (dC, dI)) (ci := 12) (v := .int 0) (ty := .int) (C := R_Mo) (T := F_Mo) (N := 66) hx hb hts (fun w h => u_Mq_Mo w (i_Mo w h)) t_Mo t_Mo_ok n_Mo hown hK hP hD hS 0 rfl rfl 5 (by decide) (hts _ (u_Mq_Mo _ k_Mo_12)) (fun _ h9 => h9) rfl (by decide +kernel) rfl rfl (Nat.le_of_ble_eq_true rfl) d_Mo_format_13 (fun H locs hP hD hS => ?_)
  obtain ⟨S_3, eS_3, h⟩ := lf_lX h
  have hP := lx_newP eS_3 hP
  have hD := lx_newD eS_3 hD
  refine lv_iload_n hx hb d_Mo_format_16 rfl (lv_at hl 2 rfl) ?_
  refine lv_iconst (v := 2) hx hb d_Mo_format_17 (by decide) ?_
  refine lv_icmp_eq (tgt := 32) hx hb d_Mo_format_18 (by decide) (fun c_4 => ?_) (fun c_4 => ?_)
  · have h := lf_t h c_4
    exact hB_32 p0 p1 p2 p3 x_2 S_3 _ _ _ h hP hD hS (lv_sub hl [1, 2, 3, 4, 5, 0] rfl)
  · have h := lf_f h c_4
    refine lv_iload_n hx hb d_Mo_format_21 rfl (lv_at hl 2 rfl) ?_
    refine lv_iconst (v := 4) hx hb d_Mo_format_22 (by decide) ?_
    refine lv_icmp_eq (tgt := 32) hx hb d_Mo_format_23 (by decide) (fun c_5 => ?_) (fun c_5 => ?_)
    · have h := lf_t h c_5
      exact hB_32 p0 p1 p2 p3 x_2 S_3 _ _ _ h hP hD hS (lv_sub hl [1, 2, 3, 4, 5, 0] rfl)
    · have h := lf_f h c_5
      refine lv_iload_n hx hb d_Mo_format_26 rfl (lv_at hl 2 rfl) ?_
      refine lv_bipush (v := 8) hx hb d_Mo_format_27 (by decide) ?_
      refine lv_icmp_ne (tgt := 65) hx hb d_Mo_format_29 (by decide) (fun c_6 => ?_) (fun c_6 => ?_)
      · have h := lf_f h c_6
        exact hB_65 p0 p1 p2 p3 x_2 S_3 _ _ _ h hP hD hS (lv_sub hl [1, 2, 3, 4, 5, 0] rfl)
      · have h := lf_t h c_6
        exact hB_32 p0 p1 p2 p3 x_2 S_3 _ _ _ h hP hD hS (lv_sub hl [1, 2, 3, 4, 5, 0] rfl)
