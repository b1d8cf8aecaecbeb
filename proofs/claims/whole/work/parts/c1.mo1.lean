set_option maxHeartbeats 4000000 in
set_option maxRecDepth 100000 in
theorem l_Mo_isLeap (l : Launch) (dC : Nat → ClassId) (dI : Nat → Nat → Nat) {K : Nat} (sz : Nat) {p0 : Int32} {r : Int32} (h : f_Mo_isLeap K p0 = some r) : Met l y_Mo_isLeap (.code y_Mo_isLeap b_Mo_isLeap 1 (some .boolean) :: V_Mq) ({ frames := 0, cells := 0, slots := 0, locals := 0 }) (va_Pc [.int p0] (fun U => U.heap.size = sz ∧ at_ (dC, dI) (fun _ => True) [] [] U)) (va_Qi (fun (r_ : Int32) (u : Unit) => r_ = r) (fun (u : Unit) t => at_ (dC, dI) (va_A [] sz) [] [] t) (va_A [] sz)) 0 0 (va_A [] sz) := by
  refine Met.ofW (cc := b_Mo_isLeap) (maxL := 1) (ret := (some .boolean)) (by decide) rfl ?_
  intro p e s m args below meth c s₁ B hml hv
  obtain ⟨rfl, hsz, hP, hK, hD0⟩ := hv
  have hx := B.exec
  have hb := B.bytes
  have hr := B.returns
  have hts0 := atoms_spec (ws := .code y_Mo_isLeap b_Mo_isLeap 1 (some .boolean) :: V_Mq) B.pre
  have hts : ∀ w ∈ V_Mq, w.before ([.int p0] : List Value).toArray s = true := fun w h => hts0 w (List.mem_cons_of_mem _ h)
  have hown : s.vm.findClass R_Mo = some m.cls := findClass_of_methodNamed B.named
  subst hsz
  have hD := hD0.self (sz := s.heap.size)
  generalize hAe : va_A [] s.heap.size = A at hD ⊢
  have hA : ∀ q : Nat, s.heap.size ≤ q → A q := fun q h => by rw [← hAe]; exact Or.inr h
  have hS : va_S A s.heap s.heap [] := va_S.rf
  have hP : va_P (dC, dI) classes [] s.heap := hP
  have hK : va_K (dC, dI) classes [] s := hK
  have hl := lv_entry ([.int p0]) (n := 1) (Nat.le_of_ble_eq_true rfl)
  rw [lg_entry_eq]
  generalize (lg_sl ([.int p0]) ++ List.replicate (1 - (lg_sl ([.int p0])).length) Slot.unset).toArray = ls at hl ⊢
  have hl : lv_has ls 1 [(0, .int p0)] := hl
  refine qabs (fun Q hQ => ?_)
  have hB_21 : ∀ (H : Heap) (locs : List Loc) (ls : Array Slot), f_Mo_isLeap_21 K = some r → va_P (dC, dI) classes [] H → va_D A [] → va_S A s.heap H locs → lv_has ls 1 [] → W p l e ({ frames := 0, cells := 0, slots := 0, locals := 0 }) s m ([.int p0] : List Value).toArray below meth c H locs 0 0 Q (F0 m 21 ls []) := by
    intro  H locs ls h hP hD hS hl
    rw [f_Mo_isLeap_21] at h
    refine lv_iconst (v := 1) hx hb d_Mo_isLeap_21 (by decide) ?_
    refine lv_goto (tgt := 26) hx hb d_Mo_isLeap_22 (by decide) ?_
    rw [hQ]
    have e1 : (1 : Int32) = r := Option.some.inj h
    exact W.zret (v := 1) hx hb hr rfl (fun t ht hW => ⟨⟨1, (), rfl, e1, by rw [ht]; exact hP, va_K.moved hW.alike hK, hD⟩, hS.F ht⟩) hS.2.2 d_Mo_isLeap_26
  have hB_25 : ∀ (H : Heap) (locs : List Loc) (ls : Array Slot), f_Mo_isLeap_25 K = some r → va_P (dC, dI) classes [] H → va_D A [] → va_S A s.heap H locs → lv_has ls 1 [] → W p l e ({ frames := 0, cells := 0, slots := 0, locals := 0 }) s m ([.int p0] : List Value).toArray below meth c H locs 0 0 Q (F0 m 25 ls []) := by
    intro  H locs ls h hP hD hS hl
    rw [f_Mo_isLeap_25] at h
    refine lv_iconst (v := 0) hx hb d_Mo_isLeap_25 (by decide) ?_
    rw [hQ]
    have e1 : (0 : Int32) = r := Option.some.inj h
    exact W.zret (v := 0) hx hb hr rfl (fun t ht hW => ⟨⟨0, (), rfl, e1, by rw [ht]; exact hP, va_K.moved hW.alike hK, hD⟩, hS.F ht⟩) hS.2.2 d_Mo_isLeap_26
  rw [f_Mo_isLeap] at h
  refine lv_iload_n hx hb d_Mo_isLeap_0 rfl (lv_at hl 0 rfl) ?_
  refine lv_iconst (v := 4) hx hb d_Mo_isLeap_1 (by decide) ?_
  refine lv_irem hx hb d_Mo_isLeap_2 (by decide) ?_
  refine lv_if_ne (tgt := 25) hx hb d_Mo_isLeap_3 (by decide) (fun c_1 => ?_) (fun c_1 => ?_)
  · have h := lf_f h c_1
    exact hB_25 _ _ _ h hP hD hS (lv_sub hl [] rfl)
  · have h := lf_t h c_1
    refine lv_iload_n hx hb d_Mo_isLeap_6 rfl (lv_at hl 0 rfl) ?_
    refine lv_bipush (v := 100) hx hb d_Mo_isLeap_7 (by decide) ?_
    refine lv_irem hx hb d_Mo_isLeap_9 (by decide) ?_
    refine lv_if_ne (tgt := 21) hx hb d_Mo_isLeap_10 (by decide) (fun c_2 => ?_) (fun c_2 => ?_)
    · have h := lf_f h c_2
      exact hB_21 _ _ _ h hP hD hS (lv_sub hl [] rfl)
    · have h := lf_t h c_2
      refine lv_iload_n hx hb d_Mo_isLeap_13 rfl (lv_at hl 0 rfl) ?_
      refine lv_sipush (v := 400) hx hb d_Mo_isLeap_14 (by decide) ?_
      refine lv_irem hx hb d_Mo_isLeap_17 (by decide) ?_
      refine lv_if_ne (tgt := 25) hx hb d_Mo_isLeap_18 (by decide) (fun c_3 => ?_) (fun c_3 => ?_)
      · have h := lf_f h c_3
        exact hB_25 _ _ _ h hP hD hS (lv_sub hl [] rfl)
      · have h := lf_t h c_3
        exact hB_21 _ _ _ h hP hD hS (lv_sub hl [] rfl)
set_option maxHeartbeats 4000000 in
set_option maxRecDepth 100000 in
theorem l_Mo_daysOf (l : Launch) (dC : Nat → ClassId) (dI : Nat → Nat → Nat) {K : Nat} (sz : Nat) {p0 : Int32} {p1 : Int32} {r : Int32} (h : f_Mo_daysOf K p0 p1 = some r) : Met l y_Mo_daysOf (.code y_Mo_daysOf b_Mo_daysOf 2 (some .int) :: V_Mq) ({ frames := 1, cells := 0, slots := 0, locals := 20 }) (va_Pc [.int p0, .int p1] (fun U => U.heap.size = sz ∧ at_ (dC, dI) (fun _ => True) [] [] U)) (va_Qi (fun (r_ : Int32) (u : Unit) => r_ = r) (fun (u : Unit) t => at_ (dC, dI) (va_A [] sz) [] [] t) (va_A [] sz)) 0 0 (va_A [] sz) := by
  refine Met.ofW (cc := b_Mo_daysOf) (maxL := 2) (ret := (some .int)) (by decide) rfl ?_
  intro p e s m args below meth c s₁ B hml hv
  obtain ⟨rfl, hsz, hP, hK, hD0⟩ := hv
  have hx := B.exec
  have hb := B.bytes
  have hr := B.returns
  have hts0 := atoms_spec (ws := .code y_Mo_daysOf b_Mo_daysOf 2 (some .int) :: V_Mq) B.pre
  have hts : ∀ w ∈ V_Mq, w.before ([.int p0, .int p1] : List Value).toArray s = true := fun w h => hts0 w (List.mem_cons_of_mem _ h)
  have hown : s.vm.findClass R_Mo = some m.cls := findClass_of_methodNamed B.named
  subst hsz
  have hD := hD0.self (sz := s.heap.size)
  generalize hAe : va_A [] s.heap.size = A at hD ⊢
  have hA : ∀ q : Nat, s.heap.size ≤ q → A q := fun q h => by rw [← hAe]; exact Or.inr h
  have hS : va_S A s.heap s.heap [] := va_S.rf
  have hP : va_P (dC, dI) classes [] s.heap := hP
  have hK : va_K (dC, dI) classes [] s := hK
  have hl := lv_entry ([.int p0, .int p1]) (n := 2) (Nat.le_of_ble_eq_true rfl)
  rw [lg_entry_eq]
  generalize (lg_sl ([.int p0, .int p1]) ++ List.replicate (2 - (lg_sl ([.int p0, .int p1])).length) Slot.unset).toArray = ls at hl ⊢
  have hl : lv_has ls 2 [(0, .int p0), (1, .int p1)] := hl
  refine qabs (fun Q hQ => ?_)
  have hB_45 : ∀ (H : Heap) (locs : List Loc) (ls : Array Slot), f_Mo_daysOf_45 K = some r → va_P (dC, dI) classes [] H → va_D A [] → va_S A s.heap H locs → lv_has ls 2 [] → W p l e ({ frames := 1, cells := 0, slots := 0, locals := 20 }) s m ([.int p0, .int p1] : List Value).toArray below meth c H locs 0 0 Q (F0 m 45 ls []) := by
    intro  H locs ls h hP hD hS hl
    rw [f_Mo_daysOf_45] at h
    refine lv_bipush (v := 30) hx hb d_Mo_daysOf_45 (by decide) ?_
    refine lv_goto (tgt := 52) hx hb d_Mo_daysOf_47 (by decide) ?_
    rw [hQ]
    have e1 : (30 : Int32) = r := Option.some.inj h
    exact W.iret (v := 30) hx hb hr (fun t ht hW => ⟨⟨30, (), rfl, e1, by rw [ht]; exact hP, va_K.moved hW.alike hK, hD⟩, hS.F ht⟩) hS.2.2 d_Mo_daysOf_52
  rw [f_Mo_daysOf] at h
  refine lv_iload_n hx hb d_Mo_daysOf_0 rfl (lv_at hl 0 rfl) ?_
  refine lv_iconst (v := 2) hx hb d_Mo_daysOf_1 (by decide) ?_
  refine lv_icmp_ne (tgt := 22) hx hb d_Mo_daysOf_2 (by decide) (fun c_1 => ?_) (fun c_1 => ?_)
  · have h := lf_f h c_1
    refine lv_iload_n hx hb d_Mo_daysOf_22 rfl (lv_at hl 0 rfl) ?_
    refine lv_iconst (v := 4) hx hb d_Mo_daysOf_23 (by decide) ?_
    refine lv_icmp_eq (tgt := 45) hx hb d_Mo_daysOf_24 (by decide) (fun c_2 => ?_) (fun c_2 => ?_)
    · have h := lf_t h c_2
      exact hB_45 _ _ _ h hP hD hS (lv_sub hl [] rfl)
    · have h := lf_f h c_2
      refine lv_iload_n hx hb d_Mo_daysOf_27 rfl (lv_at hl 0 rfl) ?_
      refine lv_bipush (v := 6) hx hb d_Mo_daysOf_28 (by decide) ?_
      refine lv_icmp_eq (tgt := 45) hx hb d_Mo_daysOf_30 (by decide) (fun c_3 => ?_) (fun c_3 => ?_)
      · have h := lf_t h c_3
        exact hB_45 _ _ _ h hP hD hS (lv_sub hl [] rfl)
      · have h := lf_f h c_3
        refine lv_iload_n hx hb d_Mo_daysOf_33 rfl (lv_at hl 0 rfl) ?_
        refine lv_bipush (v := 9) hx hb d_Mo_daysOf_34 (by decide) ?_
        refine lv_icmp_eq (tgt := 45) hx hb d_Mo_daysOf_36 (by decide) (fun c_4 => ?_) (fun c_4 => ?_)
        · have h := lf_t h c_4
          exact hB_45 _ _ _ h hP hD hS (lv_sub hl [] rfl)
        · have h := lf_f h c_4
          refine lv_iload_n hx hb d_Mo_daysOf_39 rfl (lv_at hl 0 rfl) ?_
          refine lv_bipush (v := 11) hx hb d_Mo_daysOf_40 (by decide) ?_
          refine lv_icmp_ne (tgt := 50) hx hb d_Mo_daysOf_42 (by decide) (fun c_5 => ?_) (fun c_5 => ?_)
          · have h := lf_f h c_5
            refine lv_bipush (v := 31) hx hb d_Mo_daysOf_50 (by decide) ?_
            rw [hQ]
            have e1 : (31 : Int32) = r := Option.some.inj h
            exact W.iret (v := 31) hx hb hr (fun t ht hW => ⟨⟨31, (), rfl, e1, by rw [ht]; exact hP, va_K.moved hW.alike hK, hD⟩, hS.F ht⟩) hS.2.2 d_Mo_daysOf_52
          · have h := lf_t h c_5
            exact hB_45 _ _ _ h hP hD hS (lv_sub hl [] rfl)
  · have h := lf_t h c_1
    refine lv_iload_n hx hb d_Mo_daysOf_5 rfl (lv_at hl 1 rfl) ?_
    obtain ⟨r_6, hc_6, h⟩ := lf_bE h
    have hFc := lx_free0 hS hA
    refine va_calli (va_runS (As := [.int p1]) (rest := []) ⟨hx, hb, hml, hown, hts⟩ (l_Mo_isLeap l dC dI  _ hc_6) (va_cwS 1 hts (gwS good_Mq (u_Mq_Mo _ k_Mo_158) (u_Mq_Mo _ k_Mo_159) (u_Mq_Mo _ k_Mo_0) (wcs (u_Mq_Mo _ k_Mo_160) (fun _ h => h))) rfl rfl rfl (by decide +kernel) ⟨Nat.le_of_ble_eq_true rfl, Nat.le_of_ble_eq_true rfl⟩) (ps_of (W := []) (tys := []) (hP.sub (ws' := []) [] rfl) (hK.sub [] rfl) (hD.sub (ws' := []) [] (by decide) rfl)) rfl rfl hl.1 rfl (lv_room (Nat.le_of_ble_eq_true rfl)) d_Mo_daysOf_6 ⟨by decide, by decide⟩) hS (fun q _ h => hFc q h) hFc (fun r_ u t H locs ht hvm hw hB hz1 hk1 hS => ?_)
    rw [hw]
    have hP := lx_stat (A := A) hP hk1
    refine lv_if_eq (tgt := 17) hx hb d_Mo_daysOf_9 (by decide) (fun c_7 => ?_) (fun c_7 => ?_)
    · have h := lf_t h c_7
      refine lv_bipush (v := 28) hx hb d_Mo_daysOf_17 (by decide) ?_
      refine lv_goto (tgt := 52) hx hb d_Mo_daysOf_19 (by decide) ?_
      rw [hQ]
      have e1 : (28 : Int32) = r := Option.some.inj h
      exact W.iret (v := 28) hx hb hr (fun t ht hW => ⟨⟨28, (), rfl, e1, by rw [ht]; exact hP, va_K.moved hW.alike hK, hD⟩, hS.F ht⟩) hS.2.2 d_Mo_daysOf_52
    · have h := lf_f h c_7
      refine lv_bipush (v := 29) hx hb d_Mo_daysOf_12 (by decide) ?_
      refine lv_goto (tgt := 52) hx hb d_Mo_daysOf_14 (by decide) ?_
      rw [hQ]
      have e1 : (29 : Int32) = r := Option.some.inj h
      exact W.iret (v := 29) hx hb hr (fun t ht hW => ⟨⟨29, (), rfl, e1, by rw [ht]; exact hP, va_K.moved hW.alike hK, hD⟩, hS.F ht⟩) hS.2.2 d_Mo_daysOf_52
set_option maxHeartbeats 4000000 in
set_option maxRecDepth 100000 in
theorem l_Mo_isDay (l : Launch) (dC : Nat → ClassId) (dI : Nat → Nat → Nat) {K : Nat} (sz : Nat) {p0 : Int32} {r : Int32} (h : f_Mo_isDay K p0 = some r) : Met l y_Mo_isDay (.code y_Mo_isDay b_Mo_isDay 2 (some .boolean) :: V_Mq) ({ frames := 2, cells := 0, slots := 0, locals := 41 }) (va_Pc [.int p0] (fun U => U.heap.size = sz ∧ at_ (dC, dI) (fun _ => True) [] [] U)) (va_Qi (fun (r_ : Int32) (u : Unit) => r_ = r) (fun (u : Unit) t => at_ (dC, dI) (va_A [] sz) [] [] t) (va_A [] sz)) 0 0 (va_A [] sz) := by
  refine Met.ofW (cc := b_Mo_isDay) (maxL := 2) (ret := (some .boolean)) (by decide) rfl ?_
  intro p e s m args below meth c s₁ B hml hv
  obtain ⟨rfl, hsz, hP, hK, hD0⟩ := hv
  have hx := B.exec
  have hb := B.bytes
  have hr := B.returns
  have hts0 := atoms_spec (ws := .code y_Mo_isDay b_Mo_isDay 2 (some .boolean) :: V_Mq) B.pre
  have hts : ∀ w ∈ V_Mq, w.before ([.int p0] : List Value).toArray s = true := fun w h => hts0 w (List.mem_cons_of_mem _ h)
  have hown : s.vm.findClass R_Mo = some m.cls := findClass_of_methodNamed B.named
  subst hsz
  have hD := hD0.self (sz := s.heap.size)
  generalize hAe : va_A [] s.heap.size = A at hD ⊢
  have hA : ∀ q : Nat, s.heap.size ≤ q → A q := fun q h => by rw [← hAe]; exact Or.inr h
  have hS : va_S A s.heap s.heap [] := va_S.rf
  have hP : va_P (dC, dI) classes [] s.heap := hP
  have hK : va_K (dC, dI) classes [] s := hK
  have hl := lv_entry ([.int p0]) (n := 2) (Nat.le_of_ble_eq_true rfl)
  rw [lg_entry_eq]
  generalize (lg_sl ([.int p0]) ++ List.replicate (2 - (lg_sl ([.int p0])).length) Slot.unset).toArray = ls at hl ⊢
  have hl : lv_has ls 2 [(0, .int p0)] := hl
  refine qabs (fun Q hQ => ?_)
  have hB_59 : ∀ (H : Heap) (locs : List Loc) (ls : Array Slot), f_Mo_isDay_59 K = some r → va_P (dC, dI) classes [] H → va_D A [] → va_S A s.heap H locs → lv_has ls 2 [] → W p l e ({ frames := 2, cells := 0, slots := 0, locals := 41 }) s m ([.int p0] : List Value).toArray below meth c H locs 0 0 Q (F0 m 59 ls []) := by
    intro  H locs ls h hP hD hS hl
    rw [f_Mo_isDay_59] at h
    refine lv_iconst (v := 0) hx hb d_Mo_isDay_59 (by decide) ?_
    rw [hQ]
    have e1 : (0 : Int32) = r := Option.some.inj h
    exact W.zret (v := 0) hx hb hr rfl (fun t ht hW => ⟨⟨0, (), rfl, e1, by rw [ht]; exact hP, va_K.moved hW.alike hK, hD⟩, hS.F ht⟩) hS.2.2 d_Mo_isDay_60
  rw [f_Mo_isDay] at h
  refine lv_iload_n hx hb d_Mo_isDay_0 rfl (lv_at hl 0 rfl) ?_
  refine lv_iconst (v := 5) hx hb d_Mo_isDay_1 (by decide) ?_
  refine lv_ishr hx hb d_Mo_isDay_2 ?_
  refine lv_bipush (v := 15) hx hb d_Mo_isDay_3 (by decide) ?_
  refine lv_iand hx hb d_Mo_isDay_5 ?_
  refine lv_topi (fun x_1 ex_1 => ?_)
  have h := lf_lE h ex_1
  refine lv_istore_n (lv' := [(1, .int x_1), (0, .int p0)]) hx hb d_Mo_isDay_6 rfl hl (by decide) rfl (fun ls hl => ?_)
  refine lv_iload_n hx hb d_Mo_isDay_7 rfl (lv_at hl 1 rfl) ?_
  refine lv_if_lt (tgt := 59) hx hb d_Mo_isDay_8 (by decide) (fun c_2 => ?_) (fun c_2 => ?_)
  · have h := lf_t h c_2
    exact hB_59 _ _ _ h hP hD hS (lv_sub hl [] rfl)
  · have h := lf_f h c_2
    refine lv_iload_n hx hb d_Mo_isDay_11 rfl (lv_at hl 1 rfl) ?_
    refine lv_ldc (v := 65536) hx hb hown (hts _ (u_Mq_Mo _ k_Mo_154)) d_Mo_isDay_12 ?_
    refine lv_icmp_ge (tgt := 59) hx hb d_Mo_isDay_14 (by decide) (fun c_3 => ?_) (fun c_3 => ?_)
    · have h := lf_t h c_3
      exact hB_59 _ _ _ h hP hD hS (lv_sub hl [] rfl)
    · have h := lf_f h c_3
      refine lv_iload_n hx hb d_Mo_isDay_17 rfl (lv_at hl 0 rfl) ?_
      refine lv_iconst (v := 1) hx hb d_Mo_isDay_18 (by decide) ?_
      refine lv_icmp_lt (tgt := 59) hx hb d_Mo_isDay_19 (by decide) (fun c_4 => ?_) (fun c_4 => ?_)
      · have h := lf_t h c_4
        exact hB_59 _ _ _ h hP hD hS (lv_sub hl [] rfl)
      · have h := lf_f h c_4
        refine lv_iload_n hx hb d_Mo_isDay_22 rfl (lv_at hl 0 rfl) ?_
        refine lv_bipush (v := 12) hx hb d_Mo_isDay_23 (by decide) ?_
        refine lv_icmp_gt (tgt := 59) hx hb d_Mo_isDay_25 (by decide) (fun c_5 => ?_) (fun c_5 => ?_)
        · have h := lf_t h c_5
          exact hB_59 _ _ _ h hP hD hS (lv_sub hl [] rfl)
        · have h := lf_f h c_5
          refine lv_iload_n hx hb d_Mo_isDay_28 rfl (lv_at hl 1 rfl) ?_
          refine lv_bipush (v := 31) hx hb d_Mo_isDay_29 (by decide) ?_
          refine lv_iand hx hb d_Mo_isDay_31 ?_
          refine lv_iconst (v := 1) hx hb d_Mo_isDay_32 (by decide) ?_
          refine lv_icmp_lt (tgt := 59) hx hb d_Mo_isDay_33 (by decide) (fun c_6 => ?_) (fun c_6 => ?_)
          · have h := lf_t h c_6
            exact hB_59 _ _ _ h hP hD hS (lv_sub hl [] rfl)
          · have h := lf_f h c_6
            refine lv_iload_n hx hb d_Mo_isDay_36 rfl (lv_at hl 1 rfl) ?_
            refine lv_bipush (v := 31) hx hb d_Mo_isDay_37 (by decide) ?_
            refine lv_iand hx hb d_Mo_isDay_39 ?_
            refine lv_iload_n hx hb d_Mo_isDay_40 rfl (lv_at hl 0 rfl) ?_
            refine lv_sipush (v := 1980) hx hb d_Mo_isDay_41 (by decide) ?_
            refine lv_iload_n hx hb d_Mo_isDay_44 rfl (lv_at hl 1 rfl) ?_
            refine lv_bipush (v := 9) hx hb d_Mo_isDay_45 (by decide) ?_
            refine lv_ishr hx hb d_Mo_isDay_47 ?_
            refine lv_iadd hx hb d_Mo_isDay_48 ?_
            obtain ⟨r_7, hc_7, h⟩ := lf_bE h
            have hFc := lx_free0 hS hA
            refine va_calli (va_runS (As := [.int x_1, .int (1980 + (p0 >>> ((9 : Int32) &&& 31)))]) (rest := [.int (p0 &&& 31)]) ⟨hx, hb, hml, hown, hts⟩ (l_Mo_daysOf l dC dI  _ hc_7) (va_cwS 2 hts (gwS good_Mq (u_Mq_Mo _ k_Mo_155) (u_Mq_Mo _ k_Mo_156) (u_Mq_Mo _ k_Mo_0) (wcs (u_Mq_Mo _ k_Mo_157) (fun _ h => h))) rfl rfl rfl (by decide +kernel) ⟨Nat.le_of_ble_eq_true rfl, Nat.le_of_ble_eq_true rfl⟩) (ps_of (W := []) (tys := []) (hP.sub (ws' := []) [] rfl) (hK.sub [] rfl) (hD.sub (ws' := []) [] (by decide) rfl)) rfl rfl hl.1 rfl (lv_room (Nat.le_of_ble_eq_true rfl)) d_Mo_isDay_49 ⟨by decide, by decide⟩) hS (fun q _ h => hFc q h) hFc (fun r_ u t H locs ht hvm hw hB hz1 hk1 hS => ?_)
            rw [hw]
            have hP := lx_stat (A := A) hP hk1
            refine lv_icmp_gt (tgt := 59) hx hb d_Mo_isDay_52 (by decide) (fun c_8 => ?_) (fun c_8 => ?_)
            · have h := lf_t h c_8
              exact hB_59 _ _ _ h hP hD hS (lv_sub hl [] rfl)
            · have h := lf_f h c_8
              refine lv_iconst (v := 1) hx hb d_Mo_isDay_55 (by decide) ?_
              refine lv_goto (tgt := 60) hx hb d_Mo_isDay_56 (by decide) ?_
              rw [hQ]
              have e1 : (1 : Int32) = r := Option.some.inj h
              exact W.zret (v := 1) hx hb hr rfl (fun t ht hW => ⟨⟨1, (), rfl, e1, by rw [ht]; exact hP, va_K.moved hW.alike hK, hD⟩, hS.F ht⟩) hS.2.2 d_Mo_isDay_60
set_option maxHeartbeats 4000000 in
set_option maxRecDepth 100000 in
theorem l_Mo_isTime (l : Launch) (dC : Nat → ClassId) (dI : Nat → Nat → Nat) {K : Nat} (sz : Nat) {p0 : Int32} {r : Int32} (h : f_Mo_isTime K p0 = some r) : Met l y_Mo_isTime (.code y_Mo_isTime b_Mo_isTime 1 (some .boolean) :: V_Mq) ({ frames := 0, cells := 0, slots := 0, locals := 0 }) (va_Pc [.int p0] (fun U => U.heap.size = sz ∧ at_ (dC, dI) (fun _ => True) [] [] U)) (va_Qi (fun (r_ : Int32) (u : Unit) => r_ = r) (fun (u : Unit) t => at_ (dC, dI) (va_A [] sz) [] [] t) (va_A [] sz)) 0 0 (va_A [] sz) := by
  refine Met.ofW (cc := b_Mo_isTime) (maxL := 1) (ret := (some .boolean)) (by decide) rfl ?_
  intro p e s m args below meth c s₁ B hml hv
  obtain ⟨rfl, hsz, hP, hK, hD0⟩ := hv
  have hx := B.exec
  have hb := B.bytes
  have hr := B.returns
  have hts0 := atoms_spec (ws := .code y_Mo_isTime b_Mo_isTime 1 (some .boolean) :: V_Mq) B.pre
  have hts : ∀ w ∈ V_Mq, w.before ([.int p0] : List Value).toArray s = true := fun w h => hts0 w (List.mem_cons_of_mem _ h)
  have hown : s.vm.findClass R_Mo = some m.cls := findClass_of_methodNamed B.named
  subst hsz
  have hD := hD0.self (sz := s.heap.size)
  generalize hAe : va_A [] s.heap.size = A at hD ⊢
  have hA : ∀ q : Nat, s.heap.size ≤ q → A q := fun q h => by rw [← hAe]; exact Or.inr h
  have hS : va_S A s.heap s.heap [] := va_S.rf
  have hP : va_P (dC, dI) classes [] s.heap := hP
  have hK : va_K (dC, dI) classes [] s := hK
  have hl := lv_entry ([.int p0]) (n := 1) (Nat.le_of_ble_eq_true rfl)
  rw [lg_entry_eq]
  generalize (lg_sl ([.int p0]) ++ List.replicate (1 - (lg_sl ([.int p0])).length) Slot.unset).toArray = ls at hl ⊢
  have hl : lv_has ls 1 [(0, .int p0)] := hl
  refine qabs (fun Q hQ => ?_)
  have hB_37 : ∀ (H : Heap) (locs : List Loc) (ls : Array Slot), f_Mo_isTime_37 K = some r → va_P (dC, dI) classes [] H → va_D A [] → va_S A s.heap H locs → lv_has ls 1 [] → W p l e ({ frames := 0, cells := 0, slots := 0, locals := 0 }) s m ([.int p0] : List Value).toArray below meth c H locs 0 0 Q (F0 m 37 ls []) := by
    intro  H locs ls h hP hD hS hl
    rw [f_Mo_isTime_37] at h
    refine lv_iconst (v := 0) hx hb d_Mo_isTime_37 (by decide) ?_
    rw [hQ]
    have e1 : (0 : Int32) = r := Option.some.inj h
    exact W.zret (v := 0) hx hb hr rfl (fun t ht hW => ⟨⟨0, (), rfl, e1, by rw [ht]; exact hP, va_K.moved hW.alike hK, hD⟩, hS.F ht⟩) hS.2.2 d_Mo_isTime_38
  rw [f_Mo_isTime] at h
  refine lv_iload_n hx hb d_Mo_isTime_0 rfl (lv_at hl 0 rfl) ?_
  refine lv_if_lt (tgt := 37) hx hb d_Mo_isTime_1 (by decide) (fun c_1 => ?_) (fun c_1 => ?_)
  · have h := lf_t h c_1
    exact hB_37 _ _ _ h hP hD hS (lv_sub hl [] rfl)
  · have h := lf_f h c_1
    refine lv_iload_n hx hb d_Mo_isTime_4 rfl (lv_at hl 0 rfl) ?_
    refine lv_bipush (v := 11) hx hb d_Mo_isTime_5 (by decide) ?_
    refine lv_ishr hx hb d_Mo_isTime_7 ?_
    refine lv_bipush (v := 24) hx hb d_Mo_isTime_8 (by decide) ?_
    refine lv_icmp_ge (tgt := 37) hx hb d_Mo_isTime_10 (by decide) (fun c_2 => ?_) (fun c_2 => ?_)
    · have h := lf_t h c_2
      exact hB_37 _ _ _ h hP hD hS (lv_sub hl [] rfl)
    · have h := lf_f h c_2
      refine lv_iload_n hx hb d_Mo_isTime_13 rfl (lv_at hl 0 rfl) ?_
      refine lv_iconst (v := 5) hx hb d_Mo_isTime_14 (by decide) ?_
      refine lv_ishr hx hb d_Mo_isTime_15 ?_
      refine lv_bipush (v := 63) hx hb d_Mo_isTime_16 (by decide) ?_
      refine lv_iand hx hb d_Mo_isTime_18 ?_
      refine lv_bipush (v := 60) hx hb d_Mo_isTime_19 (by decide) ?_
      refine lv_icmp_ge (tgt := 37) hx hb d_Mo_isTime_21 (by decide) (fun c_3 => ?_) (fun c_3 => ?_)
      · have h := lf_t h c_3
        exact hB_37 _ _ _ h hP hD hS (lv_sub hl [] rfl)
      · have h := lf_f h c_3
        refine lv_iload_n hx hb d_Mo_isTime_24 rfl (lv_at hl 0 rfl) ?_
        refine lv_bipush (v := 31) hx hb d_Mo_isTime_25 (by decide) ?_
        refine lv_iand hx hb d_Mo_isTime_27 ?_
        refine lv_bipush (v := 30) hx hb d_Mo_isTime_28 (by decide) ?_
        refine lv_icmp_ge (tgt := 37) hx hb d_Mo_isTime_30 (by decide) (fun c_4 => ?_) (fun c_4 => ?_)
        · have h := lf_t h c_4
          exact hB_37 _ _ _ h hP hD hS (lv_sub hl [] rfl)
        · have h := lf_f h c_4
          refine lv_iconst (v := 1) hx hb d_Mo_isTime_33 (by decide) ?_
          refine lv_goto (tgt := 38) hx hb d_Mo_isTime_34 (by decide) ?_
          rw [hQ]
          have e1 : (1 : Int32) = r := Option.some.inj h
          exact W.zret (v := 1) hx hb hr rfl (fun t ht hW => ⟨⟨1, (), rfl, e1, by rw [ht]; exact hP, va_K.moved hW.alike hK, hD⟩, hS.F ht⟩) hS.2.2 d_Mo_isTime_38
set_option maxHeartbeats 4000000 in
set_option maxRecDepth 100000 in
theorem l_Mo_isMade (l : Launch) (dC : Nat → ClassId) (dI : Nat → Nat → Nat) {K : Nat} (sz : Nat) {p0 : Int32} {p1 : Int32} {p2 : Int32} {r : Int32} (h : f_Mo_isMade K p0 p1 p2 = some r) : Met l y_Mo_isMade (.code y_Mo_isMade b_Mo_isMade 3 (some .boolean) :: V_Mq) ({ frames := 3, cells := 0, slots := 0, locals := 62 }) (va_Pc [.int p0, .int p1, .int p2] (fun U => U.heap.size = sz ∧ at_ (dC, dI) (fun _ => True) [] [] U)) (va_Qi (fun (r_ : Int32) (u : Unit) => r_ = r) (fun (u : Unit) t => at_ (dC, dI) (va_A [] sz) [] [] t) (va_A [] sz)) 0 0 (va_A [] sz) := by
  refine Met.ofW (cc := b_Mo_isMade) (maxL := 3) (ret := (some .boolean)) (by decide) rfl ?_
  intro p e s m args below meth c s₁ B hml hv
  obtain ⟨rfl, hsz, hP, hK, hD0⟩ := hv
  have hx := B.exec
  have hb := B.bytes
  have hr := B.returns
  have hts0 := atoms_spec (ws := .code y_Mo_isMade b_Mo_isMade 3 (some .boolean) :: V_Mq) B.pre
  have hts : ∀ w ∈ V_Mq, w.before ([.int p0, .int p1, .int p2] : List Value).toArray s = true := fun w h => hts0 w (List.mem_cons_of_mem _ h)
  have hown : s.vm.findClass R_Mo = some m.cls := findClass_of_methodNamed B.named
  subst hsz
  have hD := hD0.self (sz := s.heap.size)
  generalize hAe : va_A [] s.heap.size = A at hD ⊢
  have hA : ∀ q : Nat, s.heap.size ≤ q → A q := fun q h => by rw [← hAe]; exact Or.inr h
  have hS : va_S A s.heap s.heap [] := va_S.rf
  have hP : va_P (dC, dI) classes [] s.heap := hP
  have hK : va_K (dC, dI) classes [] s := hK
  have hl := lv_entry ([.int p0, .int p1, .int p2]) (n := 3) (Nat.le_of_ble_eq_true rfl)
  rw [lg_entry_eq]
  generalize (lg_sl ([.int p0, .int p1, .int p2]) ++ List.replicate (3 - (lg_sl ([.int p0, .int p1, .int p2])).length) Slot.unset).toArray = ls at hl ⊢
  have hl : lv_has ls 3 [(0, .int p0), (1, .int p1), (2, .int p2)] := hl
  refine qabs (fun Q hQ => ?_)
  have hB_16 : ∀ (H : Heap) (locs : List Loc) (ls : Array Slot), f_Mo_isMade_16 K = some r → va_P (dC, dI) classes [] H → va_D A [] → va_S A s.heap H locs → lv_has ls 3 [] → W p l e ({ frames := 3, cells := 0, slots := 0, locals := 62 }) s m ([.int p0, .int p1, .int p2] : List Value).toArray below meth c H locs 0 0 Q (F0 m 16 ls []) := by
    intro  H locs ls h hP hD hS hl
    rw [f_Mo_isMade_16] at h
    refine lv_iconst (v := 0) hx hb d_Mo_isMade_16 (by decide) ?_
    refine lv_goto (tgt := 50) hx hb d_Mo_isMade_17 (by decide) ?_
    rw [hQ]
    have e1 : (0 : Int32) = r := Option.some.inj h
    exact W.zret (v := 0) hx hb hr rfl (fun t ht hW => ⟨⟨0, (), rfl, e1, by rw [ht]; exact hP, va_K.moved hW.alike hK, hD⟩, hS.F ht⟩) hS.2.2 d_Mo_isMade_50
  have hB_49 : ∀ (H : Heap) (locs : List Loc) (ls : Array Slot), f_Mo_isMade_49 K = some r → va_P (dC, dI) classes [] H → va_D A [] → va_S A s.heap H locs → lv_has ls 3 [] → W p l e ({ frames := 3, cells := 0, slots := 0, locals := 62 }) s m ([.int p0, .int p1, .int p2] : List Value).toArray below meth c H locs 0 0 Q (F0 m 49 ls []) := by
    intro  H locs ls h hP hD hS hl
    rw [f_Mo_isMade_49] at h
    refine lv_iconst (v := 0) hx hb d_Mo_isMade_49 (by decide) ?_
    rw [hQ]
    have e1 : (0 : Int32) = r := Option.some.inj h
    exact W.zret (v := 0) hx hb hr rfl (fun t ht hW => ⟨⟨0, (), rfl, e1, by rw [ht]; exact hP, va_K.moved hW.alike hK, hD⟩, hS.F ht⟩) hS.2.2 d_Mo_isMade_50
  rw [f_Mo_isMade] at h
  refine lv_iload_n hx hb d_Mo_isMade_0 rfl (lv_at hl 0 rfl) ?_
  refine lv_if_ne (tgt := 20) hx hb d_Mo_isMade_1 (by decide) (fun c_1 => ?_) (fun c_1 => ?_)
  · have h := lf_f h c_1
    refine lv_iload_n hx hb d_Mo_isMade_20 rfl (lv_at hl 0 rfl) ?_
    obtain ⟨r_2, hc_2, h⟩ := lf_bE h
    have hFc := lx_free0 hS hA
    refine va_calli (va_runS (As := [.int p0]) (rest := []) ⟨hx, hb, hml, hown, hts⟩ (l_Mo_isDay l dC dI  _ hc_2) (va_cwS 1 hts (gwS good_Mq (u_Mq_Mo _ k_Mo_151) (u_Mq_Mo _ k_Mo_152) (u_Mq_Mo _ k_Mo_0) (wcs (u_Mq_Mo _ k_Mo_153) (fun _ h => h))) rfl rfl rfl (by decide +kernel) ⟨Nat.le_of_ble_eq_true rfl, Nat.le_of_ble_eq_true rfl⟩) (ps_of (W := []) (tys := []) (hP.sub (ws' := []) [] rfl) (hK.sub [] rfl) (hD.sub (ws' := []) [] (by decide) rfl)) rfl rfl hl.1 rfl (lv_room (Nat.le_of_ble_eq_true rfl)) d_Mo_isMade_21 ⟨by decide, by decide⟩) hS (fun q _ h => hFc q h) hFc (fun r_ u t H locs ht hvm hw hB hz1 hk1 hS => ?_)
    rw [hw]
    have hP := lx_stat (A := A) hP hk1
    refine lv_if_eq (tgt := 49) hx hb d_Mo_isMade_24 (by decide) (fun c_3 => ?_) (fun c_3 => ?_)
    · have h := lf_t h c_3
      exact hB_49 _ _ _ h hP hD hS (lv_sub hl [] rfl)
    · have h := lf_f h c_3
      refine lv_iload_n hx hb d_Mo_isMade_27 rfl (lv_at hl 1 rfl) ?_
      obtain ⟨r_4, hc_4, h⟩ := lf_bE h
      have hFc := lx_free0 hS hA
      refine va_calli (va_runS (As := [.int p1]) (rest := []) ⟨hx, hb, hml, hown, hts⟩ (l_Mo_isTime l dC dI  _ hc_4) (va_cwS 1 hts (gwS good_Mq (u_Mq_Mo _ k_Mo_161) (u_Mq_Mo _ k_Mo_162) (u_Mq_Mo _ k_Mo_0) (wcs (u_Mq_Mo _ k_Mo_163) (fun _ h => h))) rfl rfl rfl (by decide +kernel) ⟨Nat.le_of_ble_eq_true rfl, Nat.le_of_ble_eq_true rfl⟩) (ps_of (W := []) (tys := []) (hP.sub (ws' := []) [] rfl) (hK.sub [] rfl) (hD.sub (ws' := []) [] (by decide) rfl)) rfl rfl hl.1 rfl (lv_room (Nat.le_of_ble_eq_true rfl)) d_Mo_isMade_28 ⟨by decide, by decide⟩) hS (fun q _ h => hFc q h) hFc (fun r_ u t H locs ht hvm hw hB hz1 hk1 hS => ?_)
      rw [hw]
      have hP := lx_stat (A := A) hP hk1
      refine lv_if_eq (tgt := 49) hx hb d_Mo_isMade_31 (by decide) (fun c_5 => ?_) (fun c_5 => ?_)
      · have h := lf_t h c_5
        exact hB_49 _ _ _ h hP hD hS (lv_sub hl [] rfl)
      · have h := lf_f h c_5
        refine lv_iload_n hx hb d_Mo_isMade_34 rfl (lv_at hl 2 rfl) ?_
        refine lv_if_lt (tgt := 49) hx hb d_Mo_isMade_35 (by decide) (fun c_6 => ?_) (fun c_6 => ?_)
        · have h := lf_t h c_6
          exact hB_49 _ _ _ h hP hD hS (lv_sub hl [] rfl)
        · have h := lf_f h c_6
          refine lv_iload_n hx hb d_Mo_isMade_38 rfl (lv_at hl 2 rfl) ?_
          refine lv_sipush (v := 200) hx hb d_Mo_isMade_39 (by decide) ?_
          refine lv_icmp_ge (tgt := 49) hx hb d_Mo_isMade_42 (by decide) (fun c_7 => ?_) (fun c_7 => ?_)
          · have h := lf_t h c_7
            exact hB_49 _ _ _ h hP hD hS (lv_sub hl [] rfl)
          · have h := lf_f h c_7
            refine lv_iconst (v := 1) hx hb d_Mo_isMade_45 (by decide) ?_
            refine lv_goto (tgt := 50) hx hb d_Mo_isMade_46 (by decide) ?_
            rw [hQ]
            have e1 : (1 : Int32) = r := Option.some.inj h
            exact W.zret (v := 1) hx hb hr rfl (fun t ht hW => ⟨⟨1, (), rfl, e1, by rw [ht]; exact hP, va_K.moved hW.alike hK, hD⟩, hS.F ht⟩) hS.2.2 d_Mo_isMade_50
  · have h := lf_t h c_1
    refine lv_iload_n hx hb d_Mo_isMade_4 rfl (lv_at hl 1 rfl) ?_
    refine lv_if_ne (tgt := 16) hx hb d_Mo_isMade_5 (by decide) (fun c_8 => ?_) (fun c_8 => ?_)
    · have h := lf_f h c_8
      exact hB_16 _ _ _ h hP hD hS (lv_sub hl [] rfl)
    · have h := lf_t h c_8
      refine lv_iload_n hx hb d_Mo_isMade_8 rfl (lv_at hl 2 rfl) ?_
      refine lv_if_ne (tgt := 16) hx hb d_Mo_isMade_9 (by decide) (fun c_9 => ?_) (fun c_9 => ?_)
      · have h := lf_f h c_9
        exact hB_16 _ _ _ h hP hD hS (lv_sub hl [] rfl)
      · have h := lf_t h c_9
        refine lv_iconst (v := 1) hx hb d_Mo_isMade_12 (by decide) ?_
        refine lv_goto (tgt := 50) hx hb d_Mo_isMade_13 (by decide) ?_
        rw [hQ]
        have e1 : (1 : Int32) = r := Option.some.inj h
        exact W.zret (v := 1) hx hb hr rfl (fun t ht hW => ⟨⟨1, (), rfl, e1, by rw [ht]; exact hP, va_K.moved hW.alike hK, hD⟩, hS.F ht⟩) hS.2.2 d_Mo_isMade_50
set_option maxHeartbeats 4000000 in
set_option maxRecDepth 100000 in
theorem l_Mo_areDays (l : Launch) (dC : Nat → ClassId) (dI : Nat → Nat → Nat) {K : Nat} {M : MA} {E : (Nat → Prop) → State → Prop} (X : lx_X l dC dI K M E) (sz : Nat) {S S' : MS} {p0 : Int32} {r : Int32} (h : f_Mo_areDays K S p0 = some (r, S')) : Met l y_Mo_areDays (.code y_Mo_areDays b_Mo_areDays 2 (some .boolean) :: V_Mq) ({ frames := 4, cells := 0, slots := 0, locals := 84 }) (va_Pc [.ref M.o, .int p0] (fun U => U.heap.size = sz ∧ at_ (dC, dI) (fun _ => True) (wM M S) (tM M) U ∧ E (va_A (wM M S) sz) U)) (va_Qi (fun (r_ : Int32) (u : Unit) => r_ = r) (fun (u : Unit) t => at_ (dC, dI) (va_A (wM M S) sz) (wM M S') (tM M) t) (va_A (wM M S) sz)) 0 0 (va_A (wM M S) sz) := by
  refine Met.ofW (cc := b_Mo_areDays) (maxL := 2) (ret := (some .boolean)) (by decide) rfl ?_
  intro p e s m args below meth c s₁ B hml hv
  obtain ⟨rfl, hsz, ⟨hP, hK, hD0⟩, hE⟩ := hv
  have hx := B.exec
  have hb := B.bytes
  have hr := B.returns
  have hts0 := atoms_spec (ws := .code y_Mo_areDays b_Mo_areDays 2 (some .boolean) :: V_Mq) B.pre
  have hts : ∀ w ∈ V_Mq, w.before ([.ref M.o, .int p0] : List Value).toArray s = true := fun w h => hts0 w (List.mem_cons_of_mem _ h)
  have hown : s.vm.findClass R_Mo = some m.cls := findClass_of_methodNamed B.named
  subst hsz
  have hD := hD0.self (sz := s.heap.size)
  generalize hAe : va_A (wM M S) s.heap.size = A at hD hE ⊢
  have hA : ∀ q : Nat, s.heap.size ≤ q → A q := fun q h => by rw [← hAe]; exact Or.inr h
  have hS : va_S A s.heap s.heap [] := va_S.rf
  have hP : va_P (dC, dI) classes (wM M S) s.heap := hP
  have hK : va_K (dC, dI) classes (tM M) s := hK
  have hEw : ∀ (H : Heap) (locs : List Loc), va_S A s.heap H locs → ∀ U : State, U.heap = H → s.WarmedH U.vm → E A U := fun H locs hS U hU hW => X.kept A s U H locs hE hS hU hW
  have hl := lv_entry ([.ref M.o, .int p0]) (n := 2) (Nat.le_of_ble_eq_true rfl)
  rw [lg_entry_eq]
  generalize (lg_sl ([.ref M.o, .int p0]) ++ List.replicate (2 - (lg_sl ([.ref M.o, .int p0])).length) Slot.unset).toArray = ls at hl ⊢
  have hl : lv_has ls 2 [(0, .ref M.o), (1, .int p0)] := hl
  refine qabs (fun Q hQ => ?_)
  have hB_87 : ∀ (S : MS) (H : Heap) (locs : List Loc) (ls : Array Slot), f_Mo_areDays_87 K S = some (r, S') → va_P (dC, dI) classes (wM M S) H → va_D A (wM M S) → va_S A s.heap H locs → lv_has ls 2 [] → W p l e ({ frames := 4, cells := 0, slots := 0, locals := 84 }) s m ([.ref M.o, .int p0] : List Value).toArray below meth c H locs 0 0 Q (F0 m 87 ls []) := by
    intro S H locs ls h hP hD hS hl
    rw [f_Mo_areDays_87] at h
    refine lv_iconst (v := 0) hx hb d_Mo_areDays_87 (by decide) ?_
    rw [hQ]
    have e1 : (0 : Int32) = r := congrArg Prod.fst (Option.some.inj h)
    have e2 : S = S' := congrArg Prod.snd (Option.some.inj h)
    have hP := lx_newP e2.symm hP
    have hD := lx_newD e2.symm hD
    exact W.zret (v := 0) hx hb hr rfl (fun t ht hW => ⟨⟨0, (), rfl, e1, by rw [ht]; exact hP, va_K.moved hW.alike hK, hD⟩, hS.F ht⟩) hS.2.2 d_Mo_areDays_88
  have hB_55 : ∀ (y_1 : Int32) (S : MS) (H : Heap) (locs : List Loc) (ls : Array Slot), f_Mo_areDays_55 K y_1 S = some (r, S') → va_P (dC, dI) classes (wM M S) H → va_D A (wM M S) → va_S A s.heap H locs → lv_has ls 2 [(0, .ref M.o), (1, .int y_1)] → W p l e ({ frames := 4, cells := 0, slots := 0, locals := 84 }) s m ([.ref M.o, .int p0] : List Value).toArray below meth c H locs 0 0 Q (F0 m 55 ls []) := by
    intro y_1 S H locs ls h hP hD hS hl
    rw [f_Mo_areDays_55] at h
    refine lv_aload_n hx hb d_Mo_areDays_55 rfl (lv_at hl 0 rfl) ?_
    refine lv_iload_n hx hb d_Mo_areDays_56 rfl (lv_at hl 1 rfl) ?_
    refine lv_bipush (v := 24) hx hb d_Mo_areDays_57 (by decide) ?_
    refine lv_iadd hx hb d_Mo_areDays_59 ?_
    obtain ⟨r_11, S_11, hc_11, h⟩ := lf_cE h
    have hFc := lx_free hD hS hA
    refine va_calli (va_runV (As := [.int (y_1 + 24)]) (rest := []) ⟨hx, hb, hml, hown, hts⟩ (l_Mo_two l dC dI X _ hc_11) (cwV 1 hts (gwV good_Mq (u_Mq_Mo _ k_Mo_97) (u_Mq_Mo _ k_Mo_98) (u_Mq_Mo _ k_Mo_476) (u_Mq_Mo _ k_Mo_0) (wcs (u_Mq_Mo _ k_Mo_99) (fun _ h => h))) rfl rfl rfl (by decide +kernel) ⟨Nat.le_of_ble_eq_true rfl, Nat.le_of_ble_eq_true rfl⟩) (pv_ofE (X.same _) (fun U z1 z2 => X.mono _ _ U hFc (hEw _ _ hS U z1 z2)) hP hK hD (va_recv hK hP (ci := 12) (q0 := 0) rfl rfl)) rfl rfl hl.1 rfl (lv_room (Nat.le_of_ble_eq_true rfl)) d_Mo_areDays_60 ⟨by decide, by decide⟩) hS (fun q _ h => hFc q h) hFc (fun r_ u t H locs ht hvm hw hB hz1 hk1 hS => ?_)
    rw [hw]
    obtain ⟨hP, -, hD⟩ := hB
    rw [ht] at hP
    have hD := lx_dj hD hFc
    obtain ⟨r_12, hc_12, h⟩ := lf_bE h
    have hFc := lx_free0 hS hA
    refine va_calli (va_runS (As := [.int r_11]) (rest := []) ⟨hx, hb, hml, hown, hts⟩ (l_Mo_isDay l dC dI  _ hc_12) (va_cwS 1 hts (gwS good_Mq (u_Mq_Mo _ k_Mo_151) (u_Mq_Mo _ k_Mo_152) (u_Mq_Mo _ k_Mo_0) (wcs (u_Mq_Mo _ k_Mo_153) (fun _ h => h))) rfl rfl rfl (by decide +kernel) ⟨Nat.le_of_ble_eq_true rfl, Nat.le_of_ble_eq_true rfl⟩) (ps_of (W := []) (tys := []) (hP.sub (ws' := []) [] rfl) (hK.sub [] rfl) (hD.sub (ws' := []) [] (by decide) rfl)) rfl rfl hl.1 rfl (lv_room (Nat.le_of_ble_eq_true rfl)) d_Mo_areDays_63 ⟨by decide, by decide⟩) hS (fun q _ h => hFc q h) hFc (fun r_ u t H locs ht hvm hw hB hz1 hk1 hS => ?_)
    rw [hw]
    have hP := lx_stat (A := A) hP hk1
    refine lv_if_eq (tgt := 87) hx hb d_Mo_areDays_66 (by decide) (fun c_13 => ?_) (fun c_13 => ?_)
    · have h := lf_t h c_13
      exact hB_87 S_11 _ _ _ h hP hD hS (lv_sub hl [] rfl)
    · have h := lf_f h c_13
      refine lv_aload_n hx hb d_Mo_areDays_69 rfl (lv_at hl 0 rfl) ?_
      refine lv_iload_n hx hb d_Mo_areDays_70 rfl (lv_at hl 1 rfl) ?_
      refine lv_bipush (v := 22) hx hb d_Mo_areDays_71 (by decide) ?_
      refine lv_iadd hx hb d_Mo_areDays_73 ?_
      obtain ⟨r_14, S_14, hc_14, h⟩ := lf_cE h
      have hFc := lx_free hD hS hA
      refine va_calli (va_runV (As := [.int (y_1 + 22)]) (rest := []) ⟨hx, hb, hml, hown, hts⟩ (l_Mo_two l dC dI X _ hc_14) (cwV 1 hts (gwV good_Mq (u_Mq_Mo _ k_Mo_97) (u_Mq_Mo _ k_Mo_98) (u_Mq_Mo _ k_Mo_476) (u_Mq_Mo _ k_Mo_0) (wcs (u_Mq_Mo _ k_Mo_99) (fun _ h => h))) rfl rfl rfl (by decide +kernel) ⟨Nat.le_of_ble_eq_true rfl, Nat.le_of_ble_eq_true rfl⟩) (pv_ofE (X.same _) (fun U z1 z2 => X.mono _ _ U hFc (hEw _ _ hS U z1 z2)) hP hK hD (va_recv hK hP (ci := 12) (q0 := 0) rfl rfl)) rfl rfl hl.1 rfl (lv_room (Nat.le_of_ble_eq_true rfl)) d_Mo_areDays_74 ⟨by decide, by decide⟩) hS (fun q _ h => hFc q h) hFc (fun r_ u t H locs ht hvm hw hB hz1 hk1 hS => ?_)
      rw [hw]
      obtain ⟨hP, -, hD⟩ := hB
      rw [ht] at hP
      have hD := lx_dj hD hFc
      obtain ⟨r_15, hc_15, h⟩ := lf_bE h
      have hFc := lx_free0 hS hA
      refine va_calli (va_runS (As := [.int r_14]) (rest := []) ⟨hx, hb, hml, hown, hts⟩ (l_Mo_isTime l dC dI  _ hc_15) (va_cwS 1 hts (gwS good_Mq (u_Mq_Mo _ k_Mo_161) (u_Mq_Mo _ k_Mo_162) (u_Mq_Mo _ k_Mo_0) (wcs (u_Mq_Mo _ k_Mo_163) (fun _ h => h))) rfl rfl rfl (by decide +kernel) ⟨Nat.le_of_ble_eq_true rfl, Nat.le_of_ble_eq_true rfl⟩) (ps_of (W := []) (tys := []) (hP.sub (ws' := []) [] rfl) (hK.sub [] rfl) (hD.sub (ws' := []) [] (by decide) rfl)) rfl rfl hl.1 rfl (lv_room (Nat.le_of_ble_eq_true rfl)) d_Mo_areDays_77 ⟨by decide, by decide⟩) hS (fun q _ h => hFc q h) hFc (fun r_ u t H locs ht hvm hw hB hz1 hk1 hS => ?_)
      rw [hw]
      have hP := lx_stat (A := A) hP hk1
      refine lv_if_eq (tgt := 87) hx hb d_Mo_areDays_80 (by decide) (fun c_16 => ?_) (fun c_16 => ?_)
      · have h := lf_t h c_16
        exact hB_87 S_14 _ _ _ h hP hD hS (lv_sub hl [] rfl)
      · have h := lf_f h c_16
        refine lv_iconst (v := 1) hx hb d_Mo_areDays_83 (by decide) ?_
        refine lv_goto (tgt := 88) hx hb d_Mo_areDays_84 (by decide) ?_
        rw [hQ]
        have e1 : (1 : Int32) = r := congrArg Prod.fst (Option.some.inj h)
        have e2 : S_14 = S' := congrArg Prod.snd (Option.some.inj h)
        have hP := lx_newP e2.symm hP
        have hD := lx_newD e2.symm hD
        exact W.zret (v := 1) hx hb hr rfl (fun t ht hW => ⟨⟨1, (), rfl, e1, by rw [ht]; exact hP, va_K.moved hW.alike hK, hD⟩, hS.F ht⟩) hS.2.2 d_Mo_areDays_88
  rw [f_Mo_areDays] at h
  refine lv_aload_n hx hb d_Mo_areDays_0 rfl (lv_at hl 0 rfl) ?_
  refine lv_iload_n hx hb d_Mo_areDays_1 rfl (lv_at hl 1 rfl) ?_
  refine lv_bipush (v := 16) hx hb d_Mo_areDays_2 (by decide) ?_
  refine lv_iadd hx hb d_Mo_areDays_4 ?_
  obtain ⟨r_1, S_1, hc_1, h⟩ := lf_cE h
  have hFc := lx_free hD hS hA
  refine va_calli (va_runV (As := [.int (p0 + 16)]) (rest := []) ⟨hx, hb, hml, hown, hts⟩ (l_Mo_two l dC dI X _ hc_1) (cwV 1 hts (gwV good_Mq (u_Mq_Mo _ k_Mo_97) (u_Mq_Mo _ k_Mo_98) (u_Mq_Mo _ k_Mo_476) (u_Mq_Mo _ k_Mo_0) (wcs (u_Mq_Mo _ k_Mo_99) (fun _ h => h))) rfl rfl rfl (by decide +kernel) ⟨Nat.le_of_ble_eq_true rfl, Nat.le_of_ble_eq_true rfl⟩) (pv_ofE (X.same _) (fun U z1 z2 => X.mono _ _ U hFc (hEw _ _ hS U z1 z2)) hP hK hD (va_recv hK hP (ci := 12) (q0 := 0) rfl rfl)) rfl rfl hl.1 rfl (lv_room (Nat.le_of_ble_eq_true rfl)) d_Mo_areDays_5 ⟨by decide, by decide⟩) hS (fun q _ h => hFc q h) hFc (fun r_ u t H locs ht hvm hw hB hz1 hk1 hS => ?_)
  rw [hw]
  obtain ⟨hP, -, hD⟩ := hB
  rw [ht] at hP
  have hD := lx_dj hD hFc
  refine lv_aload_n hx hb d_Mo_areDays_8 rfl (lv_at hl 0 rfl) ?_
  refine lv_iload_n hx hb d_Mo_areDays_9 rfl (lv_at hl 1 rfl) ?_
  refine lv_bipush (v := 14) hx hb d_Mo_areDays_10 (by decide) ?_
  refine lv_iadd hx hb d_Mo_areDays_12 ?_
  obtain ⟨r_2, S_2, hc_2, h⟩ := lf_cE h
  have hFc := lx_free hD hS hA
  refine va_calli (va_runV (As := [.int (p0 + 14)]) (rest := [.int r_1]) ⟨hx, hb, hml, hown, hts⟩ (l_Mo_two l dC dI X _ hc_2) (cwV 1 hts (gwV good_Mq (u_Mq_Mo _ k_Mo_97) (u_Mq_Mo _ k_Mo_98) (u_Mq_Mo _ k_Mo_476) (u_Mq_Mo _ k_Mo_0) (wcs (u_Mq_Mo _ k_Mo_99) (fun _ h => h))) rfl rfl rfl (by decide +kernel) ⟨Nat.le_of_ble_eq_true rfl, Nat.le_of_ble_eq_true rfl⟩) (pv_ofE (X.same _) (fun U z1 z2 => X.mono _ _ U hFc (hEw _ _ hS U z1 z2)) hP hK hD (va_recv hK hP (ci := 12) (q0 := 0) rfl rfl)) rfl rfl hl.1 rfl (lv_room (Nat.le_of_ble_eq_true rfl)) d_Mo_areDays_13 ⟨by decide, by decide⟩) hS (fun q _ h => hFc q h) hFc (fun r_ u t H locs ht hvm hw hB hz1 hk1 hS => ?_)
  rw [hw]
  obtain ⟨hP, -, hD⟩ := hB
  rw [ht] at hP
  have hD := lx_dj hD hFc
  refine lv_aload_n hx hb d_Mo_areDays_16 rfl (lv_at hl 0 rfl) ?_
  refine lv_iload_n hx hb d_Mo_areDays_17 rfl (lv_at hl 1 rfl) ?_
  refine lv_bipush (v := 13) hx hb d_Mo_areDays_18 (by decide) ?_
  refine lv_iadd hx hb d_Mo_areDays_20 ?_
  obtain ⟨r_3, S_3, hc_3, h⟩ := lf_cE h
  have hFc := lx_free hD hS hA
  refine va_calli (va_runV (As := [.int (p0 + 13)]) (rest := [.int r_2, .int r_1]) ⟨hx, hb, hml, hown, hts⟩ (l_Mo_one l dC dI X _ hc_3) (cwV 1 hts (gwV good_Mq (u_Mq_Mo _ k_Mo_94) (u_Mq_Mo _ k_Mo_95) (u_Mq_Mo _ k_Mo_475) (u_Mq_Mo _ k_Mo_0) (wcs (u_Mq_Mo _ k_Mo_96) (fun _ h => h))) rfl rfl rfl (by decide +kernel) ⟨Nat.le_of_ble_eq_true rfl, Nat.le_of_ble_eq_true rfl⟩) (pv_ofE (X.same _) (fun U z1 z2 => X.mono _ _ U hFc (hEw _ _ hS U z1 z2)) hP hK hD (va_recv hK hP (ci := 12) (q0 := 0) rfl rfl)) rfl rfl hl.1 rfl (lv_room (Nat.le_of_ble_eq_true rfl)) d_Mo_areDays_21 ⟨by decide, by decide⟩) hS (fun q _ h => hFc q h) hFc (fun r_ u t H locs ht hvm hw hB hz1 hk1 hS => ?_)
  rw [hw]
  obtain ⟨hP, -, hD⟩ := hB
  rw [ht] at hP
  have hD := lx_dj hD hFc
  obtain ⟨r_4, hc_4, h⟩ := lf_bE h
  have hFc := lx_free0 hS hA
  refine va_calli (va_runS (As := [.int r_1, .int r_2, .int r_3]) (rest := []) ⟨hx, hb, hml, hown, hts⟩ (l_Mo_isMade l dC dI  _ hc_4) (va_cwS 3 hts (gwS good_Mq (u_Mq_Mo _ k_Mo_148) (u_Mq_Mo _ k_Mo_149) (u_Mq_Mo _ k_Mo_0) (wcs (u_Mq_Mo _ k_Mo_150) (fun _ h => h))) rfl rfl rfl (by decide +kernel) ⟨Nat.le_of_ble_eq_true rfl, Nat.le_of_ble_eq_true rfl⟩) (ps_of (W := []) (tys := []) (hP.sub (ws' := []) [] rfl) (hK.sub [] rfl) (hD.sub (ws' := []) [] (by decide) rfl)) rfl rfl hl.1 rfl (lv_room (Nat.le_of_ble_eq_true rfl)) d_Mo_areDays_24 ⟨by decide, by decide⟩) hS (fun q _ h => hFc q h) hFc (fun r_ u t H locs ht hvm hw hB hz1 hk1 hS => ?_)
  rw [hw]
  have hP := lx_stat (A := A) hP hk1
  refine lv_if_eq (tgt := 87) hx hb d_Mo_areDays_27 (by decide) (fun c_5 => ?_) (fun c_5 => ?_)
  · have h := lf_t h c_5
    exact hB_87 S_3 _ _ _ h hP hD hS (lv_sub hl [] rfl)
  · have h := lf_f h c_5
    refine lv_aload_n hx hb d_Mo_areDays_30 rfl (lv_at hl 0 rfl) ?_
    refine lv_iload_n hx hb d_Mo_areDays_31 rfl (lv_at hl 1 rfl) ?_
    refine lv_bipush (v := 18) hx hb d_Mo_areDays_32 (by decide) ?_
    refine lv_iadd hx hb d_Mo_areDays_34 ?_
    obtain ⟨r_6, S_6, hc_6, h⟩ := lf_cE h
    have hFc := lx_free hD hS hA
    refine va_calli (va_runV (As := [.int (p0 + 18)]) (rest := []) ⟨hx, hb, hml, hown, hts⟩ (l_Mo_two l dC dI X _ hc_6) (cwV 1 hts (gwV good_Mq (u_Mq_Mo _ k_Mo_97) (u_Mq_Mo _ k_Mo_98) (u_Mq_Mo _ k_Mo_476) (u_Mq_Mo _ k_Mo_0) (wcs (u_Mq_Mo _ k_Mo_99) (fun _ h => h))) rfl rfl rfl (by decide +kernel) ⟨Nat.le_of_ble_eq_true rfl, Nat.le_of_ble_eq_true rfl⟩) (pv_ofE (X.same _) (fun U z1 z2 => X.mono _ _ U hFc (hEw _ _ hS U z1 z2)) hP hK hD (va_recv hK hP (ci := 12) (q0 := 0) rfl rfl)) rfl rfl hl.1 rfl (lv_room (Nat.le_of_ble_eq_true rfl)) d_Mo_areDays_35 ⟨by decide, by decide⟩) hS (fun q _ h => hFc q h) hFc (fun r_ u t H locs ht hvm hw hB hz1 hk1 hS => ?_)
    rw [hw]
    obtain ⟨hP, -, hD⟩ := hB
    rw [ht] at hP
    have hD := lx_dj hD hFc
    refine lv_if_eq (tgt := 55) hx hb d_Mo_areDays_38 (by decide) (fun c_7 => ?_) (fun c_7 => ?_)
    · have h := lf_t h c_7
      exact hB_55 p0 S_6 _ _ _ h hP hD hS (lv_sub hl [0, 1] rfl)
    · have h := lf_f h c_7
      refine lv_aload_n hx hb d_Mo_areDays_41 rfl (lv_at hl 0 rfl) ?_
      refine lv_iload_n hx hb d_Mo_areDays_42 rfl (lv_at hl 1 rfl) ?_
      refine lv_bipush (v := 18) hx hb d_Mo_areDays_43 (by decide) ?_
      refine lv_iadd hx hb d_Mo_areDays_45 ?_
      obtain ⟨r_8, S_8, hc_8, h⟩ := lf_cE h
      have hFc := lx_free hD hS hA
      refine va_calli (va_runV (As := [.int (p0 + 18)]) (rest := []) ⟨hx, hb, hml, hown, hts⟩ (l_Mo_two l dC dI X _ hc_8) (cwV 1 hts (gwV good_Mq (u_Mq_Mo _ k_Mo_97) (u_Mq_Mo _ k_Mo_98) (u_Mq_Mo _ k_Mo_476) (u_Mq_Mo _ k_Mo_0) (wcs (u_Mq_Mo _ k_Mo_99) (fun _ h => h))) rfl rfl rfl (by decide +kernel) ⟨Nat.le_of_ble_eq_true rfl, Nat.le_of_ble_eq_true rfl⟩) (pv_ofE (X.same _) (fun U z1 z2 => X.mono _ _ U hFc (hEw _ _ hS U z1 z2)) hP hK hD (va_recv hK hP (ci := 12) (q0 := 0) rfl rfl)) rfl rfl hl.1 rfl (lv_room (Nat.le_of_ble_eq_true rfl)) d_Mo_areDays_46 ⟨by decide, by decide⟩) hS (fun q _ h => hFc q h) hFc (fun r_ u t H locs ht hvm hw hB hz1 hk1 hS => ?_)
      rw [hw]
      obtain ⟨hP, -, hD⟩ := hB
      rw [ht] at hP
      have hD := lx_dj hD hFc
      obtain ⟨r_9, hc_9, h⟩ := lf_bE h
      have hFc := lx_free0 hS hA
      refine va_calli (va_runS (As := [.int r_8]) (rest := []) ⟨hx, hb, hml, hown, hts⟩ (l_Mo_isDay l dC dI  _ hc_9) (va_cwS 1 hts (gwS good_Mq (u_Mq_Mo _ k_Mo_151) (u_Mq_Mo _ k_Mo_152) (u_Mq_Mo _ k_Mo_0) (wcs (u_Mq_Mo _ k_Mo_153) (fun _ h => h))) rfl rfl rfl (by decide +kernel) ⟨Nat.le_of_ble_eq_true rfl, Nat.le_of_ble_eq_true rfl⟩) (ps_of (W := []) (tys := []) (hP.sub (ws' := []) [] rfl) (hK.sub [] rfl) (hD.sub (ws' := []) [] (by decide) rfl)) rfl rfl hl.1 rfl (lv_room (Nat.le_of_ble_eq_true rfl)) d_Mo_areDays_49 ⟨by decide, by decide⟩) hS (fun q _ h => hFc q h) hFc (fun r_ u t H locs ht hvm hw hB hz1 hk1 hS => ?_)
      rw [hw]
      have hP := lx_stat (A := A) hP hk1
      refine lv_if_eq (tgt := 87) hx hb d_Mo_areDays_52 (by decide) (fun c_10 => ?_) (fun c_10 => ?_)
      · have h := lf_t h c_10
        exact hB_87 S_8 _ _ _ h hP hD hS (lv_sub hl [] rfl)
      · have h := lf_f h c_10
        exact hB_55 p0 S_8 _ _ _ h hP hD hS (lv_sub hl [0, 1] rfl)
set_option maxHeartbeats 4000000 in
set_option maxRecDepth 100000 in
theorem l_Mo_isShortSign (l : Launch) (dC : Nat → ClassId) (dI : Nat → Nat → Nat) {K : Nat} {M : MA} {E : (Nat → Prop) → State → Prop} (X : lx_X l dC dI K M E) (sz : Nat) {p0 : Int32} {r : Int32} (h : f_Mo_isShortSign K p0 = some r) : Met l y_Mo_isShortSign (.code y_Mo_isShortSign b_Mo_isShortSign 1 (some .boolean) :: V_Mq) ({ frames := 7, cells := 0, slots := 0, locals := 221 }) (va_Pc [.int p0] (fun U => U.heap.size = sz ∧ at_ (dC, dI) (fun _ => True) [] [] U ∧ E (va_A [] sz) U)) (va_Qi (fun (r_ : Int32) (u : Unit) => r_ = r) (fun (u : Unit) t => at_ (dC, dI) (va_A [] sz) [] [] t) (va_A [] sz)) 0 0 (va_A [] sz) := by
  refine Met.ofW (cc := b_Mo_isShortSign) (maxL := 1) (ret := (some .boolean)) (by decide) rfl ?_
  intro p e s m args below meth c s₁ B hml hv
  obtain ⟨rfl, hsz, ⟨hP, hK, hD0⟩, hE⟩ := hv
  have hx := B.exec
  have hb := B.bytes
  have hr := B.returns
  have hts0 := atoms_spec (ws := .code y_Mo_isShortSign b_Mo_isShortSign 1 (some .boolean) :: V_Mq) B.pre
  have hts : ∀ w ∈ V_Mq, w.before ([.int p0] : List Value).toArray s = true := fun w h => hts0 w (List.mem_cons_of_mem _ h)
  have hown : s.vm.findClass R_Mo = some m.cls := findClass_of_methodNamed B.named
  subst hsz
  have hD := hD0.self (sz := s.heap.size)
  generalize hAe : va_A [] s.heap.size = A at hD hE ⊢
  have hA : ∀ q : Nat, s.heap.size ≤ q → A q := fun q h => by rw [← hAe]; exact Or.inr h
  have hS : va_S A s.heap s.heap [] := va_S.rf
  have hP : va_P (dC, dI) classes [] s.heap := hP
  have hK : va_K (dC, dI) classes [] s := hK
  have hEw : ∀ (H : Heap) (locs : List Loc), va_S A s.heap H locs → ∀ U : State, U.heap = H → s.WarmedH U.vm → E A U := fun H locs hS U hU hW => X.kept A s U H locs hE hS hU hW
  have hl := lv_entry ([.int p0]) (n := 1) (Nat.le_of_ble_eq_true rfl)
  rw [lg_entry_eq]
  generalize (lg_sl ([.int p0]) ++ List.replicate (1 - (lg_sl ([.int p0])).length) Slot.unset).toArray = ls at hl ⊢
  have hl : lv_has ls 1 [(0, .int p0)] := hl
  refine qabs (fun Q hQ => ?_)
  have hB_38 : ∀ (H : Heap) (locs : List Loc) (ls : Array Slot), f_Mo_isShortSign_38 K = some r → va_P (dC, dI) classes [] H → va_D A [] → va_S A s.heap H locs → lv_has ls 1 [] → W p l e ({ frames := 7, cells := 0, slots := 0, locals := 221 }) s m ([.int p0] : List Value).toArray below meth c H locs 0 0 Q (F0 m 38 ls []) := by
    intro  H locs ls h hP hD hS hl
    rw [f_Mo_isShortSign_38] at h
    refine lv_iconst (v := 1) hx hb d_Mo_isShortSign_38 (by decide) ?_
    refine lv_goto (tgt := 43) hx hb d_Mo_isShortSign_39 (by decide) ?_
    rw [hQ]
    have e1 : (1 : Int32) = r := Option.some.inj h
    exact W.zret (v := 1) hx hb hr rfl (fun t ht hW => ⟨⟨1, (), rfl, e1, by rw [ht]; exact hP, va_K.moved hW.alike hK, hD⟩, hS.F ht⟩) hS.2.2 d_Mo_isShortSign_43
  have hB_42 : ∀ (H : Heap) (locs : List Loc) (ls : Array Slot), f_Mo_isShortSign_42 K = some r → va_P (dC, dI) classes [] H → va_D A [] → va_S A s.heap H locs → lv_has ls 1 [] → W p l e ({ frames := 7, cells := 0, slots := 0, locals := 221 }) s m ([.int p0] : List Value).toArray below meth c H locs 0 0 Q (F0 m 42 ls []) := by
    intro  H locs ls h hP hD hS hl
    rw [f_Mo_isShortSign_42] at h
    refine lv_iconst (v := 0) hx hb d_Mo_isShortSign_42 (by decide) ?_
    rw [hQ]
    have e1 : (0 : Int32) = r := Option.some.inj h
    exact W.zret (v := 0) hx hb hr rfl (fun t ht hW => ⟨⟨0, (), rfl, e1, by rw [ht]; exact hP, va_K.moved hW.alike hK, hD⟩, hS.F ht⟩) hS.2.2 d_Mo_isShortSign_43
  have hB_24 : ∀ (y_0 : Int32) (H : Heap) (locs : List Loc) (ls : Array Slot), f_Mo_isShortSign_24 K y_0 = some r → va_P (dC, dI) classes [] H → va_D A [] → va_S A s.heap H locs → lv_has ls 1 [(0, .int y_0)] → W p l e ({ frames := 7, cells := 0, slots := 0, locals := 221 }) s m ([.int p0] : List Value).toArray below meth c H locs 0 0 Q (F0 m 24 ls []) := by
    intro y_0 H locs ls h hP hD hS hl
    rw [f_Mo_isShortSign_24] at h
    refine lv_iload_n hx hb d_Mo_isShortSign_24 rfl (lv_at hl 0 rfl) ?_
    refine lv_if_le (tgt := 42) hx hb d_Mo_isShortSign_25 (by decide) (fun c_5 => ?_) (fun c_5 => ?_)
    · have h := lf_t h c_5
      exact hB_42 _ _ _ h hP hD hS (lv_sub hl [] rfl)
    · have h := lf_f h c_5
      refine va_ldcS hx hb hown (X.str_230 A s hE) d_Mo_isShortSign_28 ?_
      refine lv_iload_n hx hb d_Mo_isShortSign_30 rfl (lv_at hl 0 rfl) ?_
      refine lv_i2c hx hb d_Mo_isShortSign_31 rfl ?_
      obtain ⟨x_6, ex_6, h⟩ := lf_lX h
      have hFc := lx_free0 hS hA
      refine va_calli (va_runV (As := [.int ((y_0.toUInt32 % 65536).toInt32)]) (rest := []) ⟨hx, hb, hml, hown, hts⟩ (X.indexOf_230 _ ((y_0.toUInt32 % 65536).toInt32)) (cwV 1 hts (gwV good_Mq (u_Mq_Mo _ k_Mo_170) (k_Mq_67) (k_Mq_68) (k_Mq_4) (wcs (k_Mq_69) (fun _ h => h))) rfl rfl rfl (by decide +kernel) ⟨Nat.le_of_ble_eq_true rfl, Nat.le_of_ble_eq_true rfl⟩) (pv_ofE (W := []) (tys := []) (X.same _) (fun U z1 z2 => X.mono _ _ U hFc (hEw _ _ hS U z1 z2)) (hP.sub (ws' := []) [] rfl) (hK.sub [] rfl) (hD.sub (ws' := []) [] (by decide) rfl) (X.recv_230 _ (lx_s s _) (hEw _ _ hS (lx_s s _) rfl (State.WarmedH.refl s)))) rfl rfl hl.1 rfl (lv_room (Nat.le_of_ble_eq_true rfl)) d_Mo_isShortSign_32 ⟨by decide, by decide⟩) hS (fun q _ h => hFc q h) hFc (fun r_ u t H locs ht hvm hw hB hz1 hk1 hS => ?_)
      rw [hw, ← ex_6]
      have hP := lx_stat (A := A) hP hk1
      refine lv_if_lt (tgt := 42) hx hb d_Mo_isShortSign_35 (by decide) (fun c_7 => ?_) (fun c_7 => ?_)
      · have h := lf_t h c_7
        exact hB_42 _ _ _ h hP hD hS (lv_sub hl [] rfl)
      · have h := lf_f h c_7
        exact hB_38 _ _ _ h hP hD hS (lv_sub hl [] rfl)
  have hB_12 : ∀ (y_0 : Int32) (H : Heap) (locs : List Loc) (ls : Array Slot), f_Mo_isShortSign_12 K y_0 = some r → va_P (dC, dI) classes [] H → va_D A [] → va_S A s.heap H locs → lv_has ls 1 [(0, .int y_0)] → W p l e ({ frames := 7, cells := 0, slots := 0, locals := 221 }) s m ([.int p0] : List Value).toArray below meth c H locs 0 0 Q (F0 m 12 ls []) := by
    intro y_0 H locs ls h hP hD hS hl
    rw [f_Mo_isShortSign_12] at h
    refine lv_iload_n hx hb d_Mo_isShortSign_12 rfl (lv_at hl 0 rfl) ?_
    refine lv_bipush (v := 48) hx hb d_Mo_isShortSign_13 (by decide) ?_
    refine lv_icmp_lt (tgt := 24) hx hb d_Mo_isShortSign_15 (by decide) (fun c_3 => ?_) (fun c_3 => ?_)
    · have h := lf_t h c_3
      exact hB_24 y_0 _ _ _ h hP hD hS (lv_sub hl [0] rfl)
    · have h := lf_f h c_3
      refine lv_iload_n hx hb d_Mo_isShortSign_18 rfl (lv_at hl 0 rfl) ?_
      refine lv_bipush (v := 57) hx hb d_Mo_isShortSign_19 (by decide) ?_
      refine lv_icmp_le (tgt := 38) hx hb d_Mo_isShortSign_21 (by decide) (fun c_4 => ?_) (fun c_4 => ?_)
      · have h := lf_t h c_4
        exact hB_38 _ _ _ h hP hD hS (lv_sub hl [] rfl)
      · have h := lf_f h c_4
        exact hB_24 y_0 _ _ _ h hP hD hS (lv_sub hl [0] rfl)
  rw [f_Mo_isShortSign] at h
  refine lv_iload_n hx hb d_Mo_isShortSign_0 rfl (lv_at hl 0 rfl) ?_
  refine lv_bipush (v := 65) hx hb d_Mo_isShortSign_1 (by decide) ?_
  refine lv_icmp_lt (tgt := 12) hx hb d_Mo_isShortSign_3 (by decide) (fun c_1 => ?_) (fun c_1 => ?_)
  · have h := lf_t h c_1
    exact hB_12 p0 _ _ _ h hP hD hS (lv_sub hl [0] rfl)
  · have h := lf_f h c_1
    refine lv_iload_n hx hb d_Mo_isShortSign_6 rfl (lv_at hl 0 rfl) ?_
    refine lv_bipush (v := 90) hx hb d_Mo_isShortSign_7 (by decide) ?_
    refine lv_icmp_le (tgt := 38) hx hb d_Mo_isShortSign_9 (by decide) (fun c_2 => ?_) (fun c_2 => ?_)
    · have h := lf_t h c_2
      exact hB_38 _ _ _ h hP hD hS (lv_sub hl [] rfl)
    · have h := lf_f h c_2
      exact hB_12 p0 _ _ _ h hP hD hS (lv_sub hl [0] rfl)
set_option maxHeartbeats 4000000 in
set_option maxRecDepth 100000 in
theorem l_Mo_isShort (l : Launch) (dC : Nat → ClassId) (dI : Nat → Nat → Nat) {K : Nat} {M : MA} {E : (Nat → Prop) → State → Prop} (X : lx_X l dC dI K M E) (sz : Nat) {S S' : MS} {p0 : Int32} {p1 : Int32} {r : Int32} (h : f_Mo_isShort K S p0 p1 = some (r, S')) : Met l y_Mo_isShort (.code y_Mo_isShort b_Mo_isShort 6 (some .boolean) :: V_Mq) ({ frames := 8, cells := 0, slots := 0, locals := 241 }) (va_Pc [.ref M.o, .int p0, .int p1] (fun U => U.heap.size = sz ∧ at_ (dC, dI) (fun _ => True) (wM M S) (tM M) U ∧ E (va_A (wM M S) sz) U)) (va_Qi (fun (r_ : Int32) (u : Unit) => r_ = r) (fun (u : Unit) t => at_ (dC, dI) (va_A (wM M S) sz) (wM M S') (tM M) t) (va_A (wM M S) sz)) 0 0 (va_A (wM M S) sz) := by
  refine Met.ofW (cc := b_Mo_isShort) (maxL := 6) (ret := (some .boolean)) (by decide) rfl ?_
  intro p e s m args below meth c s₁ B hml hv
  obtain ⟨rfl, hsz, ⟨hP, hK, hD0⟩, hE⟩ := hv
  have hx := B.exec
  have hb := B.bytes
  have hr := B.returns
  have hts0 := atoms_spec (ws := .code y_Mo_isShort b_Mo_isShort 6 (some .boolean) :: V_Mq) B.pre
  have hts : ∀ w ∈ V_Mq, w.before ([.ref M.o, .int p0, .int p1] : List Value).toArray s = true := fun w h => hts0 w (List.mem_cons_of_mem _ h)
  have hown : s.vm.findClass R_Mo = some m.cls := findClass_of_methodNamed B.named
  subst hsz
  have hD := hD0.self (sz := s.heap.size)
  generalize hAe : va_A (wM M S) s.heap.size = A at hD hE ⊢
  have hA : ∀ q : Nat, s.heap.size ≤ q → A q := fun q h => by rw [← hAe]; exact Or.inr h
  have hS : va_S A s.heap s.heap [] := va_S.rf
  have hP : va_P (dC, dI) classes (wM M S) s.heap := hP
  have hK : va_K (dC, dI) classes (tM M) s := hK
  have hEw : ∀ (H : Heap) (locs : List Loc), va_S A s.heap H locs → ∀ U : State, U.heap = H → s.WarmedH U.vm → E A U := fun H locs hS U hU hW => X.kept A s U H locs hE hS hU hW
  have hl := lv_entry ([.ref M.o, .int p0, .int p1]) (n := 6) (Nat.le_of_ble_eq_true rfl)
  rw [lg_entry_eq]
  generalize (lg_sl ([.ref M.o, .int p0, .int p1]) ++ List.replicate (6 - (lg_sl ([.ref M.o, .int p0, .int p1])).length) Slot.unset).toArray = ls at hl ⊢
  have hl : lv_has ls 6 [(0, .ref M.o), (1, .int p0), (2, .int p1)] := hl
  refine qabs (fun Q hQ => ?_)
  have hB_120 : ∀ (rec_19 : Int32 → Int32 → Int32 → Int32 → MS → Option (Int32 × MS)) (hr_19 : ∀ (y_1 : Int32) (y_2 : Int32) (y_3 : Int32) (y_4 : Int32) (S : MS) (H : Heap) (locs : List Loc) (ls : Array Slot), rec_19 y_1 y_2 y_3 y_4 S = some (r, S') → va_P (dC, dI) classes (wM M S) H → va_D A (wM M S) → va_S A s.heap H locs → lv_has ls 6 [(0, .ref M.o), (1, .int y_1), (2, .int y_2), (3, .int y_3), (4, .int y_4)] → W p l e ({ frames := 8, cells := 0, slots := 0, locals := 241 }) s m ([.ref M.o, .int p0, .int p1] : List Value).toArray below meth c H locs 0 0 Q (F0 m 19 ls [])), ∀ (y_1 : Int32) (y_2 : Int32) (y_4 : Int32) (z_0 : Int32) (S : MS) (H : Heap) (locs : List Loc) (ls : Array Slot), f_Mo_isShort_120 K rec_19 y_1 y_2 y_4 z_0 S = some (r, S') → va_P (dC, dI) classes (wM M S) H → va_D A (wM M S) → va_S A s.heap H locs → lv_has ls 6 [(0, .ref M.o), (1, .int y_1), (2, .int y_2), (4, .int y_4)] → W p l e ({ frames := 8, cells := 0, slots := 0, locals := 241 }) s m ([.ref M.o, .int p0, .int p1] : List Value).toArray below meth c H locs 0 0 Q (F0 m 120 ls [.int z_0]) := by
    intro rec_19 hr_19 y_1 y_2 y_4 z_0 S H locs ls h hP hD hS hl
    rw [f_Mo_isShort_120] at h
    refine lv_istore_n (lv' := [(3, .int z_0), (0, .ref M.o), (1, .int y_1), (2, .int y_2), (4, .int y_4)]) hx hb d_Mo_isShort_120 rfl hl (by decide) rfl (fun ls hl => ?_)
    obtain ⟨x_19, ex_19, h⟩ := lf_lX h
    refine lv_iinc (v := x_19) (lv' := [(4, .int x_19), (3, .int z_0), (0, .ref M.o), (1, .int y_1), (2, .int y_2)]) hx hb d_Mo_isShort_121 hl (k := 4) rfl (by rw [ex_19]; rfl) (by decide) rfl (fun ls hl => ?_)
    refine lv_goto (tgt := 19) hx hb d_Mo_isShort_124 (by decide) ?_
    exact hr_19 y_1 y_2 z_0 x_19 S _ _ _ h hP hD hS (lv_sub hl [2, 3, 4, 1, 0] rfl)
  have hB_115 : ∀ (rec_19 : Int32 → Int32 → Int32 → Int32 → MS → Option (Int32 × MS)) (hr_19 : ∀ (y_1 : Int32) (y_2 : Int32) (y_3 : Int32) (y_4 : Int32) (S : MS) (H : Heap) (locs : List Loc) (ls : Array Slot), rec_19 y_1 y_2 y_3 y_4 S = some (r, S') → va_P (dC, dI) classes (wM M S) H → va_D A (wM M S) → va_S A s.heap H locs → lv_has ls 6 [(0, .ref M.o), (1, .int y_1), (2, .int y_2), (3, .int y_3), (4, .int y_4)] → W p l e ({ frames := 8, cells := 0, slots := 0, locals := 241 }) s m ([.ref M.o, .int p0, .int p1] : List Value).toArray below meth c H locs 0 0 Q (F0 m 19 ls [])), ∀ (y_1 : Int32) (y_2 : Int32) (y_4 : Int32) (S : MS) (H : Heap) (locs : List Loc) (ls : Array Slot), f_Mo_isShort_115 K rec_19 y_1 y_2 y_4 S = some (r, S') → va_P (dC, dI) classes (wM M S) H → va_D A (wM M S) → va_S A s.heap H locs → lv_has ls 6 [(0, .ref M.o), (1, .int y_1), (2, .int y_2), (4, .int y_4)] → W p l e ({ frames := 8, cells := 0, slots := 0, locals := 241 }) s m ([.ref M.o, .int p0, .int p1] : List Value).toArray below meth c H locs 0 0 Q (F0 m 115 ls []) := by
    intro rec_19 hr_19 y_1 y_2 y_4 S H locs ls h hP hD hS hl
    rw [f_Mo_isShort_115] at h
    refine lv_iconst (v := 1) hx hb d_Mo_isShort_115 (by decide) ?_
    refine lv_goto (tgt := 120) hx hb d_Mo_isShort_116 (by decide) ?_
    exact hB_120 _ hr_19 y_1 y_2 y_4 1 S _ _ _ h hP hD hS (lv_sub hl [0, 1, 2, 3] rfl)
  have hB_119 : ∀ (rec_19 : Int32 → Int32 → Int32 → Int32 → MS → Option (Int32 × MS)) (hr_19 : ∀ (y_1 : Int32) (y_2 : Int32) (y_3 : Int32) (y_4 : Int32) (S : MS) (H : Heap) (locs : List Loc) (ls : Array Slot), rec_19 y_1 y_2 y_3 y_4 S = some (r, S') → va_P (dC, dI) classes (wM M S) H → va_D A (wM M S) → va_S A s.heap H locs → lv_has ls 6 [(0, .ref M.o), (1, .int y_1), (2, .int y_2), (3, .int y_3), (4, .int y_4)] → W p l e ({ frames := 8, cells := 0, slots := 0, locals := 241 }) s m ([.ref M.o, .int p0, .int p1] : List Value).toArray below meth c H locs 0 0 Q (F0 m 19 ls [])), ∀ (y_1 : Int32) (y_2 : Int32) (y_4 : Int32) (S : MS) (H : Heap) (locs : List Loc) (ls : Array Slot), f_Mo_isShort_119 K rec_19 y_1 y_2 y_4 S = some (r, S') → va_P (dC, dI) classes (wM M S) H → va_D A (wM M S) → va_S A s.heap H locs → lv_has ls 6 [(0, .ref M.o), (1, .int y_1), (2, .int y_2), (4, .int y_4)] → W p l e ({ frames := 8, cells := 0, slots := 0, locals := 241 }) s m ([.ref M.o, .int p0, .int p1] : List Value).toArray below meth c H locs 0 0 Q (F0 m 119 ls []) := by
    intro rec_19 hr_19 y_1 y_2 y_4 S H locs ls h hP hD hS hl
    rw [f_Mo_isShort_119] at h
    refine lv_iconst (v := 0) hx hb d_Mo_isShort_119 (by decide) ?_
    exact hB_120 _ hr_19 y_1 y_2 y_4 0 S _ _ _ h hP hD hS (lv_sub hl [0, 1, 2, 3] rfl)
  have hB_74 : ∀ (rec_19 : Int32 → Int32 → Int32 → Int32 → MS → Option (Int32 × MS)) (hr_19 : ∀ (y_1 : Int32) (y_2 : Int32) (y_3 : Int32) (y_4 : Int32) (S : MS) (H : Heap) (locs : List Loc) (ls : Array Slot), rec_19 y_1 y_2 y_3 y_4 S = some (r, S') → va_P (dC, dI) classes (wM M S) H → va_D A (wM M S) → va_S A s.heap H locs → lv_has ls 6 [(0, .ref M.o), (1, .int y_1), (2, .int y_2), (3, .int y_3), (4, .int y_4)] → W p l e ({ frames := 8, cells := 0, slots := 0, locals := 241 }) s m ([.ref M.o, .int p0, .int p1] : List Value).toArray below meth c H locs 0 0 Q (F0 m 19 ls [])), ∀ (y_1 : Int32) (y_2 : Int32) (y_4 : Int32) (y_5 : Int32) (z_0 : Int32) (S : MS) (H : Heap) (locs : List Loc) (ls : Array Slot), f_Mo_isShort_74 K rec_19 y_1 y_2 y_4 y_5 z_0 S = some (r, S') → va_P (dC, dI) classes (wM M S) H → va_D A (wM M S) → va_S A s.heap H locs → lv_has ls 6 [(0, .ref M.o), (1, .int y_1), (2, .int y_2), (4, .int y_4), (5, .int y_5)] → W p l e ({ frames := 8, cells := 0, slots := 0, locals := 241 }) s m ([.ref M.o, .int p0, .int p1] : List Value).toArray below meth c H locs 0 0 Q (F0 m 74 ls [.int z_0]) := by
    intro rec_19 hr_19 y_1 y_2 y_4 y_5 z_0 S H locs ls h hP hD hS hl
    rw [f_Mo_isShort_74] at h
    refine lv_istore_n (lv' := [(3, .int z_0), (0, .ref M.o), (1, .int y_1), (2, .int y_2), (4, .int y_4), (5, .int y_5)]) hx hb d_Mo_isShort_74 rfl hl (by decide) rfl (fun ls hl => ?_)
    refine lv_iload_n hx hb d_Mo_isShort_75 rfl (lv_at hl 0 rfl) ?_
    refine lv_if_eq (tgt := 119) hx hb d_Mo_isShort_76 (by decide) (fun c_12 => ?_) (fun c_12 => ?_)
    · have h := lf_t h c_12
      exact hB_119 _ hr_19 y_1 y_2 y_4 S _ _ _ h hP hD hS (lv_sub hl [1, 2, 3, 4] rfl)
    · have h := lf_f h c_12
      refine lv_iload_n hx hb d_Mo_isShort_79 rfl (lv_at hl 3 rfl) ?_
      refine lv_if_ne (tgt := 115) hx hb d_Mo_isShort_80 (by decide) (fun c_13 => ?_) (fun c_13 => ?_)
      · have h := lf_f h c_13
        exact hB_115 _ hr_19 y_1 y_2 y_4 S _ _ _ h hP hD hS (lv_sub hl [1, 2, 3, 4] rfl)
      · have h := lf_t h c_13
        refine lv_iload hx hb d_Mo_isShort_83 (lv_at hl 4 rfl) ?_
        refine lv_if_eq (tgt := 115) hx hb d_Mo_isShort_85 (by decide) (fun c_14 => ?_) (fun c_14 => ?_)
        · have h := lf_t h c_14
          exact hB_115 _ hr_19 y_1 y_2 y_4 S _ _ _ h hP hD hS (lv_sub hl [1, 2, 3, 4] rfl)
        · have h := lf_f h c_14
          refine lv_iload hx hb d_Mo_isShort_88 (lv_at hl 4 rfl) ?_
          refine lv_bipush (v := 8) hx hb d_Mo_isShort_90 (by decide) ?_
          refine lv_icmp_eq (tgt := 115) hx hb d_Mo_isShort_92 (by decide) (fun c_15 => ?_) (fun c_15 => ?_)
          · have h := lf_t h c_15
            exact hB_115 _ hr_19 y_1 y_2 y_4 S _ _ _ h hP hD hS (lv_sub hl [1, 2, 3, 4] rfl)
          · have h := lf_f h c_15
            refine lv_iload hx hb d_Mo_isShort_95 (lv_at hl 5 rfl) ?_
            refine lv_if_ne (tgt := 115) hx hb d_Mo_isShort_97 (by decide) (fun c_16 => ?_) (fun c_16 => ?_)
            · have h := lf_f h c_16
              exact hB_115 _ hr_19 y_1 y_2 y_4 S _ _ _ h hP hD hS (lv_sub hl [1, 2, 3, 4] rfl)
            · have h := lf_t h c_16
              refine lv_aload_n hx hb d_Mo_isShort_100 rfl (lv_at hl 1 rfl) ?_
              refine lv_iload_n hx hb d_Mo_isShort_101 rfl (lv_at hl 2 rfl) ?_
              refine lv_iload hx hb d_Mo_isShort_102 (lv_at hl 4 rfl) ?_
              refine lv_iadd hx hb d_Mo_isShort_104 ?_
              refine lv_iconst (v := 1) hx hb d_Mo_isShort_105 (by decide) ?_
              refine lv_isub hx hb d_Mo_isShort_106 ?_
              obtain ⟨r_17, S_17, hc_17, h⟩ := lf_cE h
              have hFc := lx_free hD hS hA
              refine va_calli (va_runV (As := [.int ((y_1 + y_4) - 1)]) (rest := []) ⟨hx, hb, hml, hown, hts⟩ (l_Mo_one l dC dI X _ hc_17) (cwV 1 hts (gwV good_Mq (u_Mq_Mo _ k_Mo_94) (u_Mq_Mo _ k_Mo_95) (u_Mq_Mo _ k_Mo_475) (u_Mq_Mo _ k_Mo_0) (wcs (u_Mq_Mo _ k_Mo_96) (fun _ h => h))) rfl rfl rfl (by decide +kernel) ⟨Nat.le_of_ble_eq_true rfl, Nat.le_of_ble_eq_true rfl⟩) (pv_ofE (X.same _) (fun U z1 z2 => X.mono _ _ U hFc (hEw _ _ hS U z1 z2)) hP hK hD (va_recv hK hP (ci := 12) (q0 := 0) rfl rfl)) rfl rfl hl.1 rfl (lv_room (Nat.le_of_ble_eq_true rfl)) d_Mo_isShort_107 ⟨by decide, by decide⟩) hS (fun q _ h => hFc q h) hFc (fun r_ u t H locs ht hvm hw hB hz1 hk1 hS => ?_)
              rw [hw]
              obtain ⟨hP, -, hD⟩ := hB
              rw [ht] at hP
              have hD := lx_dj hD hFc
              refine lv_bipush (v := 32) hx hb d_Mo_isShort_110 (by decide) ?_
              refine lv_icmp_eq (tgt := 119) hx hb d_Mo_isShort_112 (by decide) (fun c_18 => ?_) (fun c_18 => ?_)
              · have h := lf_t h c_18
                exact hB_119 _ hr_19 y_1 y_2 y_4 S_17 _ _ _ h hP hD hS (lv_sub hl [1, 2, 3, 4] rfl)
              · have h := lf_f h c_18
                exact hB_115 _ hr_19 y_1 y_2 y_4 S_17 _ _ _ h hP hD hS (lv_sub hl [1, 2, 3, 4] rfl)
  have hB_69 : ∀ (rec_19 : Int32 → Int32 → Int32 → Int32 → MS → Option (Int32 × MS)) (hr_19 : ∀ (y_1 : Int32) (y_2 : Int32) (y_3 : Int32) (y_4 : Int32) (S : MS) (H : Heap) (locs : List Loc) (ls : Array Slot), rec_19 y_1 y_2 y_3 y_4 S = some (r, S') → va_P (dC, dI) classes (wM M S) H → va_D A (wM M S) → va_S A s.heap H locs → lv_has ls 6 [(0, .ref M.o), (1, .int y_1), (2, .int y_2), (3, .int y_3), (4, .int y_4)] → W p l e ({ frames := 8, cells := 0, slots := 0, locals := 241 }) s m ([.ref M.o, .int p0, .int p1] : List Value).toArray below meth c H locs 0 0 Q (F0 m 19 ls [])), ∀ (y_1 : Int32) (y_2 : Int32) (y_4 : Int32) (y_5 : Int32) (S : MS) (H : Heap) (locs : List Loc) (ls : Array Slot), f_Mo_isShort_69 K rec_19 y_1 y_2 y_4 y_5 S = some (r, S') → va_P (dC, dI) classes (wM M S) H → va_D A (wM M S) → va_S A s.heap H locs → lv_has ls 6 [(0, .ref M.o), (1, .int y_1), (2, .int y_2), (4, .int y_4), (5, .int y_5)] → W p l e ({ frames := 8, cells := 0, slots := 0, locals := 241 }) s m ([.ref M.o, .int p0, .int p1] : List Value).toArray below meth c H locs 0 0 Q (F0 m 69 ls []) := by
    intro rec_19 hr_19 y_1 y_2 y_4 y_5 S H locs ls h hP hD hS hl
    rw [f_Mo_isShort_69] at h
    refine lv_iconst (v := 1) hx hb d_Mo_isShort_69 (by decide) ?_
    refine lv_goto (tgt := 74) hx hb d_Mo_isShort_70 (by decide) ?_
    exact hB_74 _ hr_19 y_1 y_2 y_4 y_5 1 S _ _ _ h hP hD hS (lv_sub hl [0, 1, 2, 3, 4] rfl)
  have hB_73 : ∀ (rec_19 : Int32 → Int32 → Int32 → Int32 → MS → Option (Int32 × MS)) (hr_19 : ∀ (y_1 : Int32) (y_2 : Int32) (y_3 : Int32) (y_4 : Int32) (S : MS) (H : Heap) (locs : List Loc) (ls : Array Slot), rec_19 y_1 y_2 y_3 y_4 S = some (r, S') → va_P (dC, dI) classes (wM M S) H → va_D A (wM M S) → va_S A s.heap H locs → lv_has ls 6 [(0, .ref M.o), (1, .int y_1), (2, .int y_2), (3, .int y_3), (4, .int y_4)] → W p l e ({ frames := 8, cells := 0, slots := 0, locals := 241 }) s m ([.ref M.o, .int p0, .int p1] : List Value).toArray below meth c H locs 0 0 Q (F0 m 19 ls [])), ∀ (y_1 : Int32) (y_2 : Int32) (y_4 : Int32) (y_5 : Int32) (S : MS) (H : Heap) (locs : List Loc) (ls : Array Slot), f_Mo_isShort_73 K rec_19 y_1 y_2 y_4 y_5 S = some (r, S') → va_P (dC, dI) classes (wM M S) H → va_D A (wM M S) → va_S A s.heap H locs → lv_has ls 6 [(0, .ref M.o), (1, .int y_1), (2, .int y_2), (4, .int y_4), (5, .int y_5)] → W p l e ({ frames := 8, cells := 0, slots := 0, locals := 241 }) s m ([.ref M.o, .int p0, .int p1] : List Value).toArray below meth c H locs 0 0 Q (F0 m 73 ls []) := by
    intro rec_19 hr_19 y_1 y_2 y_4 y_5 S H locs ls h hP hD hS hl
    rw [f_Mo_isShort_73] at h
    refine lv_iconst (v := 0) hx hb d_Mo_isShort_73 (by decide) ?_
    exact hB_74 _ hr_19 y_1 y_2 y_4 y_5 0 S _ _ _ h hP hD hS (lv_sub hl [0, 1, 2, 3, 4] rfl)
  have hB_44 : ∀ (rec_19 : Int32 → Int32 → Int32 → Int32 → MS → Option (Int32 × MS)) (hr_19 : ∀ (y_1 : Int32) (y_2 : Int32) (y_3 : Int32) (y_4 : Int32) (S : MS) (H : Heap) (locs : List Loc) (ls : Array Slot), rec_19 y_1 y_2 y_3 y_4 S = some (r, S') → va_P (dC, dI) classes (wM M S) H → va_D A (wM M S) → va_S A s.heap H locs → lv_has ls 6 [(0, .ref M.o), (1, .int y_1), (2, .int y_2), (3, .int y_3), (4, .int y_4)] → W p l e ({ frames := 8, cells := 0, slots := 0, locals := 241 }) s m ([.ref M.o, .int p0, .int p1] : List Value).toArray below meth c H locs 0 0 Q (F0 m 19 ls [])), ∀ (y_1 : Int32) (y_2 : Int32) (y_3 : Int32) (y_4 : Int32) (z_0 : Int32) (S : MS) (H : Heap) (locs : List Loc) (ls : Array Slot), f_Mo_isShort_44 K rec_19 y_1 y_2 y_3 y_4 z_0 S = some (r, S') → va_P (dC, dI) classes (wM M S) H → va_D A (wM M S) → va_S A s.heap H locs → lv_has ls 6 [(0, .ref M.o), (1, .int y_1), (2, .int y_2), (3, .int y_3), (4, .int y_4)] → W p l e ({ frames := 8, cells := 0, slots := 0, locals := 241 }) s m ([.ref M.o, .int p0, .int p1] : List Value).toArray below meth c H locs 0 0 Q (F0 m 44 ls [.int z_0]) := by
    intro rec_19 hr_19 y_1 y_2 y_3 y_4 z_0 S H locs ls h hP hD hS hl
    rw [f_Mo_isShort_44] at h
    refine lv_istore (lv' := [(5, .int z_0), (0, .ref M.o), (1, .int y_1), (2, .int y_2), (3, .int y_3), (4, .int y_4)]) hx hb d_Mo_isShort_44 hl (by decide) rfl (fun ls hl => ?_)
    refine lv_iload_n hx hb d_Mo_isShort_46 rfl (lv_at hl 4 rfl) ?_
    refine lv_if_eq (tgt := 73) hx hb d_Mo_isShort_47 (by decide) (fun c_7 => ?_) (fun c_7 => ?_)
    · have h := lf_t h c_7
      exact hB_73 _ hr_19 y_1 y_2 y_4 z_0 S _ _ _ h hP hD hS (lv_sub hl [1, 2, 3, 5, 0] rfl)
    · have h := lf_f h c_7
      refine lv_iload hx hb d_Mo_isShort_50 (lv_at hl 0 rfl) ?_
      refine lv_if_ne (tgt := 69) hx hb d_Mo_isShort_52 (by decide) (fun c_8 => ?_) (fun c_8 => ?_)
      · have h := lf_f h c_8
        exact hB_69 _ hr_19 y_1 y_2 y_4 z_0 S _ _ _ h hP hD hS (lv_sub hl [1, 2, 3, 5, 0] rfl)
      · have h := lf_t h c_8
        refine lv_aload_n hx hb d_Mo_isShort_55 rfl (lv_at hl 1 rfl) ?_
        refine lv_iload_n hx hb d_Mo_isShort_56 rfl (lv_at hl 2 rfl) ?_
        refine lv_iload hx hb d_Mo_isShort_57 (lv_at hl 5 rfl) ?_
        refine lv_iadd hx hb d_Mo_isShort_59 ?_
        obtain ⟨r_9, S_9, hc_9, h⟩ := lf_cE h
        have hFc := lx_free hD hS hA
        refine va_calli (va_runV (As := [.int (y_1 + y_4)]) (rest := []) ⟨hx, hb, hml, hown, hts⟩ (l_Mo_one l dC dI X _ hc_9) (cwV 1 hts (gwV good_Mq (u_Mq_Mo _ k_Mo_94) (u_Mq_Mo _ k_Mo_95) (u_Mq_Mo _ k_Mo_475) (u_Mq_Mo _ k_Mo_0) (wcs (u_Mq_Mo _ k_Mo_96) (fun _ h => h))) rfl rfl rfl (by decide +kernel) ⟨Nat.le_of_ble_eq_true rfl, Nat.le_of_ble_eq_true rfl⟩) (pv_ofE (X.same _) (fun U z1 z2 => X.mono _ _ U hFc (hEw _ _ hS U z1 z2)) hP hK hD (va_recv hK hP (ci := 12) (q0 := 0) rfl rfl)) rfl rfl hl.1 rfl (lv_room (Nat.le_of_ble_eq_true rfl)) d_Mo_isShort_60 ⟨by decide, by decide⟩) hS (fun q _ h => hFc q h) hFc (fun r_ u t H locs ht hvm hw hB hz1 hk1 hS => ?_)
        rw [hw]
        obtain ⟨hP, -, hD⟩ := hB
        rw [ht] at hP
        have hD := lx_dj hD hFc
        obtain ⟨r_10, hc_10, h⟩ := lf_bE h
        have hFc := lx_free0 hS hA
        refine va_calli (va_runS (As := [.int r_9]) (rest := []) ⟨hx, hb, hml, hown, hts⟩ (l_Mo_isShortSign l dC dI X _ hc_10) (va_cwS 1 hts (gwS good_Mq (u_Mq_Mo _ k_Mo_167) (u_Mq_Mo _ k_Mo_168) (u_Mq_Mo _ k_Mo_0) (wcs (u_Mq_Mo _ k_Mo_169) (fun _ h => h))) rfl rfl rfl (by decide +kernel) ⟨Nat.le_of_ble_eq_true rfl, Nat.le_of_ble_eq_true rfl⟩) (ps_ofE2 (W := []) (tys := []) (X.same _) (fun U z1 z2 => X.mono _ _ U hFc (hEw _ _ hS U z1 z2)) (hP.sub (ws' := []) [] rfl) (hK.sub [] rfl) (hD.sub (ws' := []) [] (by decide) rfl)) rfl rfl hl.1 rfl (lv_room (Nat.le_of_ble_eq_true rfl)) d_Mo_isShort_63 ⟨by decide, by decide⟩) hS (fun q _ h => hFc q h) hFc (fun r_ u t H locs ht hvm hw hB hz1 hk1 hS => ?_)
        rw [hw]
        have hP := lx_stat (A := A) hP hk1
        refine lv_if_eq (tgt := 73) hx hb d_Mo_isShort_66 (by decide) (fun c_11 => ?_) (fun c_11 => ?_)
        · have h := lf_t h c_11
          exact hB_73 _ hr_19 y_1 y_2 y_4 z_0 S_9 _ _ _ h hP hD hS (lv_sub hl [1, 2, 3, 5, 0] rfl)
        · have h := lf_f h c_11
          exact hB_69 _ hr_19 y_1 y_2 y_4 z_0 S_9 _ _ _ h hP hD hS (lv_sub hl [1, 2, 3, 5, 0] rfl)
  have hB_19 : ∀ (k : Nat), ∀ (y_1 : Int32) (y_2 : Int32) (y_3 : Int32) (y_4 : Int32) (S : MS) (H : Heap) (locs : List Loc) (ls : Array Slot), f_Mo_isShort_19 K k y_1 y_2 y_3 y_4 S = some (r, S') → va_P (dC, dI) classes (wM M S) H → va_D A (wM M S) → va_S A s.heap H locs → lv_has ls 6 [(0, .ref M.o), (1, .int y_1), (2, .int y_2), (3, .int y_3), (4, .int y_4)] → W p l e ({ frames := 8, cells := 0, slots := 0, locals := 241 }) s m ([.ref M.o, .int p0, .int p1] : List Value).toArray below meth c H locs 0 0 Q (F0 m 19 ls []) := by
    intro k
    induction k with
    | zero => intro y_1 y_2 y_3 y_4 S H locs ls h; exact lf_no h
    | succ k hr_19 =>
      intro y_1 y_2 y_3 y_4 S H locs ls h hP hD hS hl
      rw [f_Mo_isShort_19] at h
      refine lv_iload hx hb d_Mo_isShort_19 (lv_at hl 4 rfl) ?_
      refine lv_bipush (v := 11) hx hb d_Mo_isShort_21 (by decide) ?_
      refine lv_icmp_ge (tgt := 127) hx hb d_Mo_isShort_23 (by decide) (fun c_3 => ?_) (fun c_3 => ?_)
      · have h := lf_t h c_3
        refine lv_iload_n hx hb d_Mo_isShort_127 rfl (lv_at hl 3 rfl) ?_
        obtain ⟨g_4, h⟩ := lf_gE h
        rw [hQ]
        have e1 : y_3 = r := congrArg Prod.fst (Option.some.inj h)
        have e2 : S = S' := congrArg Prod.snd (Option.some.inj h)
        have hP := lx_newP e2.symm hP
        have hD := lx_newD e2.symm hD
        exact W.zret (v := y_3) hx hb hr (lf_nz g_4) (fun t ht hW => ⟨⟨y_3, (), rfl, e1, by rw [ht]; exact hP, va_K.moved hW.alike hK, hD⟩, hS.F ht⟩) hS.2.2 d_Mo_isShort_128
      · have h := lf_f h c_3
        refine lv_aload_n hx hb d_Mo_isShort_26 rfl (lv_at hl 0 rfl) ?_
        refine lv_iload_n hx hb d_Mo_isShort_27 rfl (lv_at hl 1 rfl) ?_
        refine lv_iload hx hb d_Mo_isShort_28 (lv_at hl 4 rfl) ?_
        refine lv_iadd hx hb d_Mo_isShort_30 ?_
        obtain ⟨r_5, S_5, hc_5, h⟩ := lf_cE h
        have hFc := lx_free hD hS hA
        refine va_calli (va_runV (As := [.int (y_1 + y_4)]) (rest := []) ⟨hx, hb, hml, hown, hts⟩ (l_Mo_one l dC dI X _ hc_5) (cwV 1 hts (gwV good_Mq (u_Mq_Mo _ k_Mo_94) (u_Mq_Mo _ k_Mo_95) (u_Mq_Mo _ k_Mo_475) (u_Mq_Mo _ k_Mo_0) (wcs (u_Mq_Mo _ k_Mo_96) (fun _ h => h))) rfl rfl rfl (by decide +kernel) ⟨Nat.le_of_ble_eq_true rfl, Nat.le_of_ble_eq_true rfl⟩) (pv_ofE (X.same _) (fun U z1 z2 => X.mono _ _ U hFc (hEw _ _ hS U z1 z2)) hP hK hD (va_recv hK hP (ci := 12) (q0 := 0) rfl rfl)) rfl rfl hl.1 rfl (lv_room (Nat.le_of_ble_eq_true rfl)) d_Mo_isShort_31 ⟨by decide, by decide⟩) hS (fun q _ h => hFc q h) hFc (fun r_ u t H locs ht hvm hw hB hz1 hk1 hS => ?_)
        rw [hw]
        obtain ⟨hP, -, hD⟩ := hB
        rw [ht] at hP
        have hD := lx_dj hD hFc
        refine lv_bipush (v := 32) hx hb d_Mo_isShort_34 (by decide) ?_
        refine lv_icmp_ne (tgt := 43) hx hb d_Mo_isShort_36 (by decide) (fun c_6 => ?_) (fun c_6 => ?_)
        · have h := lf_f h c_6
          refine lv_iconst (v := 0) hx hb d_Mo_isShort_43 (by decide) ?_
          exact hB_44 _ hr_19 y_1 y_2 y_3 y_4 0 S_5 _ _ _ h hP hD hS (lv_sub hl [0, 1, 2, 3, 4] rfl)
        · have h := lf_t h c_6
          refine lv_iconst (v := 1) hx hb d_Mo_isShort_39 (by decide) ?_
          refine lv_goto (tgt := 44) hx hb d_Mo_isShort_40 (by decide) ?_
          exact hB_44 _ hr_19 y_1 y_2 y_3 y_4 1 S_5 _ _ _ h hP hD hS (lv_sub hl [0, 1, 2, 3, 4] rfl)
  have hB_15 : ∀ (y_1 : Int32) (y_2 : Int32) (z_0 : Int32) (S : MS) (H : Heap) (locs : List Loc) (ls : Array Slot), f_Mo_isShort_15 K y_1 y_2 z_0 S = some (r, S') → va_P (dC, dI) classes (wM M S) H → va_D A (wM M S) → va_S A s.heap H locs → lv_has ls 6 [(0, .ref M.o), (1, .int y_1), (2, .int y_2)] → W p l e ({ frames := 8, cells := 0, slots := 0, locals := 241 }) s m ([.ref M.o, .int p0, .int p1] : List Value).toArray below meth c H locs 0 0 Q (F0 m 15 ls [.int z_0]) := by
    intro y_1 y_2 z_0 S H locs ls h hP hD hS hl
    rw [f_Mo_isShort_15] at h
    refine lv_istore_n (lv' := [(3, .int z_0), (0, .ref M.o), (1, .int y_1), (2, .int y_2)]) hx hb d_Mo_isShort_15 rfl hl (by decide) rfl (fun ls hl => ?_)
    refine lv_iconst (v := 0) hx hb d_Mo_isShort_16 (by decide) ?_
    refine lv_istore (lv' := [(4, .int 0), (3, .int z_0), (0, .ref M.o), (1, .int y_1), (2, .int y_2)]) hx hb d_Mo_isShort_17 hl (by decide) rfl (fun ls hl => ?_)
    exact hB_19 K y_1 y_2 z_0 0 S _ _ _ h hP hD hS (lv_sub hl [2, 3, 4, 1, 0] rfl)
  rw [f_Mo_isShort] at h
  refine lv_aload_n hx hb d_Mo_isShort_0 rfl (lv_at hl 0 rfl) ?_
  refine lv_iload_n hx hb d_Mo_isShort_1 rfl (lv_at hl 1 rfl) ?_
  obtain ⟨r_1, S_1, hc_1, h⟩ := lf_cE h
  have hFc := lx_free hD hS hA
  refine va_calli (va_runV (As := [.int p0]) (rest := []) ⟨hx, hb, hml, hown, hts⟩ (l_Mo_one l dC dI X _ hc_1) (cwV 1 hts (gwV good_Mq (u_Mq_Mo _ k_Mo_94) (u_Mq_Mo _ k_Mo_95) (u_Mq_Mo _ k_Mo_475) (u_Mq_Mo _ k_Mo_0) (wcs (u_Mq_Mo _ k_Mo_96) (fun _ h => h))) rfl rfl rfl (by decide +kernel) ⟨Nat.le_of_ble_eq_true rfl, Nat.le_of_ble_eq_true rfl⟩) (pv_ofE (X.same _) (fun U z1 z2 => X.mono _ _ U hFc (hEw _ _ hS U z1 z2)) hP hK hD (va_recv hK hP (ci := 12) (q0 := 0) rfl rfl)) rfl rfl hl.1 rfl (lv_room (Nat.le_of_ble_eq_true rfl)) d_Mo_isShort_2 ⟨by decide, by decide⟩) hS (fun q _ h => hFc q h) hFc (fun r_ u t H locs ht hvm hw hB hz1 hk1 hS => ?_)
  rw [hw]
  obtain ⟨hP, -, hD⟩ := hB
  rw [ht] at hP
  have hD := lx_dj hD hFc
  refine lv_bipush (v := 32) hx hb d_Mo_isShort_5 (by decide) ?_
  refine lv_icmp_eq (tgt := 14) hx hb d_Mo_isShort_7 (by decide) (fun c_2 => ?_) (fun c_2 => ?_)
  · have h := lf_t h c_2
    refine lv_iconst (v := 0) hx hb d_Mo_isShort_14 (by decide) ?_
    exact hB_15 p0 p1 0 S_1 _ _ _ h hP hD hS (lv_sub hl [0, 1, 2] rfl)
  · have h := lf_f h c_2
    refine lv_iconst (v := 1) hx hb d_Mo_isShort_10 (by decide) ?_
    refine lv_goto (tgt := 15) hx hb d_Mo_isShort_11 (by decide) ?_
    exact hB_15 p0 p1 1 S_1 _ _ _ h hP hD hS (lv_sub hl [0, 1, 2] rfl)
set_option maxHeartbeats 4000000 in
set_option maxRecDepth 100000 in
theorem l_Mo_sumOf (l : Launch) (dC : Nat → ClassId) (dI : Nat → Nat → Nat) {K : Nat} {M : MA} {E : (Nat → Prop) → State → Prop} (X : lx_X l dC dI K M E) (sz : Nat) {S S' : MS} {p0 : Int32} {r : Int32} (h : f_Mo_sumOf K S p0 = some (r, S')) : Met l y_Mo_sumOf (.code y_Mo_sumOf b_Mo_sumOf 4 (some .int) :: V_Mq) ({ frames := 1, cells := 0, slots := 0, locals := 21 }) (va_Pc [.ref M.o, .int p0] (fun U => U.heap.size = sz ∧ at_ (dC, dI) (fun _ => True) (wM M S) (tM M) U ∧ E (va_A (wM M S) sz) U)) (va_Qi (fun (r_ : Int32) (u : Unit) => r_ = r) (fun (u : Unit) t => at_ (dC, dI) (va_A (wM M S) sz) (wM M S') (tM M) t) (va_A (wM M S) sz)) 0 0 (va_A (wM M S) sz) := by
  refine Met.ofW (cc := b_Mo_sumOf) (maxL := 4) (ret := (some .int)) (by decide) rfl ?_
  intro p e s m args below meth c s₁ B hml hv
  obtain ⟨rfl, hsz, ⟨hP, hK, hD0⟩, hE⟩ := hv
  have hx := B.exec
  have hb := B.bytes
  have hr := B.returns
  have hts0 := atoms_spec (ws := .code y_Mo_sumOf b_Mo_sumOf 4 (some .int) :: V_Mq) B.pre
  have hts : ∀ w ∈ V_Mq, w.before ([.ref M.o, .int p0] : List Value).toArray s = true := fun w h => hts0 w (List.mem_cons_of_mem _ h)
  have hown : s.vm.findClass R_Mo = some m.cls := findClass_of_methodNamed B.named
  subst hsz
  have hD := hD0.self (sz := s.heap.size)
  generalize hAe : va_A (wM M S) s.heap.size = A at hD hE ⊢
  have hA : ∀ q : Nat, s.heap.size ≤ q → A q := fun q h => by rw [← hAe]; exact Or.inr h
  have hS : va_S A s.heap s.heap [] := va_S.rf
  have hP : va_P (dC, dI) classes (wM M S) s.heap := hP
  have hK : va_K (dC, dI) classes (tM M) s := hK
  have hEw : ∀ (H : Heap) (locs : List Loc), va_S A s.heap H locs → ∀ U : State, U.heap = H → s.WarmedH U.vm → E A U := fun H locs hS U hU hW => X.kept A s U H locs hE hS hU hW
  have hl := lv_entry ([.ref M.o, .int p0]) (n := 4) (Nat.le_of_ble_eq_true rfl)
  rw [lg_entry_eq]
  generalize (lg_sl ([.ref M.o, .int p0]) ++ List.replicate (4 - (lg_sl ([.ref M.o, .int p0])).length) Slot.unset).toArray = ls at hl ⊢
  have hl : lv_has ls 4 [(0, .ref M.o), (1, .int p0)] := hl
  refine qabs (fun Q hQ => ?_)
  have hB_4 : ∀ (k : Nat), ∀ (y_1 : Int32) (y_2 : Int32) (y_3 : Int32) (S : MS) (H : Heap) (locs : List Loc) (ls : Array Slot), f_Mo_sumOf_4 K k y_1 y_2 y_3 S = some (r, S') → va_P (dC, dI) classes (wM M S) H → va_D A (wM M S) → va_S A s.heap H locs → lv_has ls 4 [(0, .ref M.o), (1, .int y_1), (2, .int y_2), (3, .int y_3)] → W p l e ({ frames := 1, cells := 0, slots := 0, locals := 21 }) s m ([.ref M.o, .int p0] : List Value).toArray below meth c H locs 0 0 Q (F0 m 4 ls []) := by
    intro k
    induction k with
    | zero => intro y_1 y_2 y_3 S H locs ls h; exact lf_no h
    | succ k hr_4 =>
      intro y_1 y_2 y_3 S H locs ls h hP hD hS hl
      rw [f_Mo_sumOf_4] at h
      refine lv_iload_n hx hb d_Mo_sumOf_4 rfl (lv_at hl 3 rfl) ?_
      refine lv_bipush (v := 11) hx hb d_Mo_sumOf_5 (by decide) ?_
      refine lv_icmp_ge (tgt := 40) hx hb d_Mo_sumOf_7 (by decide) (fun c_1 => ?_) (fun c_1 => ?_)
      · have h := lf_t h c_1
        refine lv_iload_n hx hb d_Mo_sumOf_40 rfl (lv_at hl 2 rfl) ?_
        rw [hQ]
        have e1 : y_2 = r := congrArg Prod.fst (Option.some.inj h)
        have e2 : S = S' := congrArg Prod.snd (Option.some.inj h)
        have hP := lx_newP e2.symm hP
        have hD := lx_newD e2.symm hD
        exact W.iret (v := y_2) hx hb hr (fun t ht hW => ⟨⟨y_2, (), rfl, e1, by rw [ht]; exact hP, va_K.moved hW.alike hK, hD⟩, hS.F ht⟩) hS.2.2 d_Mo_sumOf_41
      · have h := lf_f h c_1
        refine lv_iload_n hx hb d_Mo_sumOf_10 rfl (lv_at hl 2 rfl) ?_
        refine lv_iconst (v := 1) hx hb d_Mo_sumOf_11 (by decide) ?_
        refine lv_iand hx hb d_Mo_sumOf_12 ?_
        refine lv_sipush (v := 128) hx hb d_Mo_sumOf_13 (by decide) ?_
        refine lv_imul hx hb d_Mo_sumOf_16 ?_
        refine lv_iload_n hx hb d_Mo_sumOf_17 rfl (lv_at hl 2 rfl) ?_
        refine lv_iconst (v := 1) hx hb d_Mo_sumOf_18 (by decide) ?_
        refine lv_ishr hx hb d_Mo_sumOf_19 ?_
        refine lv_iadd hx hb d_Mo_sumOf_20 ?_
        refine lv_aload_n hx hb d_Mo_sumOf_21 rfl (lv_at hl 0 rfl) ?_
        refine lv_iload_n hx hb d_Mo_sumOf_22 rfl (lv_at hl 1 rfl) ?_
        refine lv_iload_n hx hb d_Mo_sumOf_23 rfl (lv_at hl 3 rfl) ?_
        refine lv_iadd hx hb d_Mo_sumOf_24 ?_
        obtain ⟨r_2, S_2, hc_2, h⟩ := lf_cE h
        have hFc := lx_free hD hS hA
        refine va_calli (va_runV (As := [.int (y_1 + y_3)]) (rest := [.int (((y_2 &&& 1) * 128) + (y_2 >>> ((1 : Int32) &&& 31)))]) ⟨hx, hb, hml, hown, hts⟩ (l_Mo_one l dC dI X _ hc_2) (cwV 1 hts (gwV good_Mq (u_Mq_Mo _ k_Mo_94) (u_Mq_Mo _ k_Mo_95) (u_Mq_Mo _ k_Mo_475) (u_Mq_Mo _ k_Mo_0) (wcs (u_Mq_Mo _ k_Mo_96) (fun _ h => h))) rfl rfl rfl (by decide +kernel) ⟨Nat.le_of_ble_eq_true rfl, Nat.le_of_ble_eq_true rfl⟩) (pv_ofE (X.same _) (fun U z1 z2 => X.mono _ _ U hFc (hEw _ _ hS U z1 z2)) hP hK hD (va_recv hK hP (ci := 12) (q0 := 0) rfl rfl)) rfl rfl hl.1 rfl (lv_room (Nat.le_of_ble_eq_true rfl)) d_Mo_sumOf_25 ⟨by decide, by decide⟩) hS (fun q _ h => hFc q h) hFc (fun r_ u t H locs ht hvm hw hB hz1 hk1 hS => ?_)
        rw [hw]
        obtain ⟨hP, -, hD⟩ := hB
        rw [ht] at hP
        have hD := lx_dj hD hFc
        refine lv_iadd hx hb d_Mo_sumOf_28 ?_
        refine lv_sipush (v := 255) hx hb d_Mo_sumOf_29 (by decide) ?_
        refine lv_iand hx hb d_Mo_sumOf_32 ?_
        refine lv_topi (fun x_3 ex_3 => ?_)
        have h := lf_lE h ex_3
        refine lv_istore_n (lv' := [(2, .int x_3), (0, .ref M.o), (1, .int y_1), (3, .int y_3)]) hx hb d_Mo_sumOf_33 rfl hl (by decide) rfl (fun ls hl => ?_)
        obtain ⟨x_4, ex_4, h⟩ := lf_lX h
        refine lv_iinc (v := x_4) (lv' := [(3, .int x_4), (2, .int x_3), (0, .ref M.o), (1, .int y_1)]) hx hb d_Mo_sumOf_34 hl (k := 3) rfl (by rw [ex_4]; rfl) (by decide) rfl (fun ls hl => ?_)
        refine lv_goto (tgt := 4) hx hb d_Mo_sumOf_37 (by decide) ?_
        exact hr_4 y_1 x_3 x_4 S_2 _ _ _ h hP hD hS (lv_sub hl [2, 3, 1, 0] rfl)
  rw [f_Mo_sumOf] at h
  refine lv_iconst (v := 0) hx hb d_Mo_sumOf_0 (by decide) ?_
  refine lv_istore_n (lv' := [(2, .int 0), (0, .ref M.o), (1, .int p0)]) hx hb d_Mo_sumOf_1 rfl hl (by decide) rfl (fun ls hl => ?_)
  refine lv_iconst (v := 0) hx hb d_Mo_sumOf_2 (by decide) ?_
  refine lv_istore_n (lv' := [(3, .int 0), (2, .int 0), (0, .ref M.o), (1, .int p0)]) hx hb d_Mo_sumOf_3 rfl hl (by decide) rfl (fun ls hl => ?_)
  exact hB_4 K p0 0 0 S _ _ _ h hP hD hS (lv_sub hl [2, 3, 1, 0] rfl)
set_option maxHeartbeats 4000000 in
set_option maxRecDepth 100000 in
theorem l_Mo_isName (l : Launch) (dC : Nat → ClassId) (dI : Nat → Nat → Nat) {K : Nat} {M : MA} {E : (Nat → Prop) → State → Prop} (X : lx_X l dC dI K M E) (sz : Nat) {S S' : MS} {r : Int32} (h : f_Mo_isName K S = some (r, S')) : Met l y_Mo_isName (.code y_Mo_isName b_Mo_isName 4 (some .boolean) :: V_Mq) ({ frames := 7, cells := 0, slots := 0, locals := 221 }) (va_Pc [.ref M.o] (fun U => U.heap.size = sz ∧ at_ (dC, dI) (fun _ => True) (wM M S) (tM M) U ∧ E (va_A (wM M S) sz) U)) (va_Qi (fun (r_ : Int32) (u : Unit) => r_ = r) (fun (u : Unit) t => at_ (dC, dI) (va_A (wM M S) sz) (wM M S') (tM M) t) (va_A (wM M S) sz)) 0 0 (va_A (wM M S) sz) := by
  refine Met.ofW (cc := b_Mo_isName) (maxL := 4) (ret := (some .boolean)) (by decide) rfl ?_
  intro p e s m args below meth c s₁ B hml hv
  obtain ⟨rfl, hsz, ⟨hP, hK, hD0⟩, hE⟩ := hv
  have hx := B.exec
  have hb := B.bytes
  have hr := B.returns
  have hts0 := atoms_spec (ws := .code y_Mo_isName b_Mo_isName 4 (some .boolean) :: V_Mq) B.pre
  have hts : ∀ w ∈ V_Mq, w.before ([.ref M.o] : List Value).toArray s = true := fun w h => hts0 w (List.mem_cons_of_mem _ h)
  have hown : s.vm.findClass R_Mo = some m.cls := findClass_of_methodNamed B.named
  subst hsz
  have hD := hD0.self (sz := s.heap.size)
  generalize hAe : va_A (wM M S) s.heap.size = A at hD hE ⊢
  have hA : ∀ q : Nat, s.heap.size ≤ q → A q := fun q h => by rw [← hAe]; exact Or.inr h
  have hS : va_S A s.heap s.heap [] := va_S.rf
  have hP : va_P (dC, dI) classes (wM M S) s.heap := hP
  have hK : va_K (dC, dI) classes (tM M) s := hK
  have hEw : ∀ (H : Heap) (locs : List Loc), va_S A s.heap H locs → ∀ U : State, U.heap = H → s.WarmedH U.vm → E A U := fun H locs hS U hU hW => X.kept A s U H locs hE hS hU hW
  have hl := lv_entry ([.ref M.o]) (n := 4) (Nat.le_of_ble_eq_true rfl)
  rw [lg_entry_eq]
  generalize (lg_sl ([.ref M.o]) ++ List.replicate (4 - (lg_sl ([.ref M.o])).length) Slot.unset).toArray = ls at hl ⊢
  have hl : lv_has ls 4 [(0, .ref M.o)] := hl
  refine qabs (fun Q hQ => ?_)
  have hB_100 : ∀ (rec_26 : Int32 → Int32 → MS → Option (Int32 × MS)) (hr_26 : ∀ (y_1 : Int32) (y_2 : Int32) (S : MS) (H : Heap) (locs : List Loc) (ls : Array Slot), rec_26 y_1 y_2 S = some (r, S') → va_P (dC, dI) classes (wM M S) H → va_D A (wM M S) → va_S A s.heap H locs → lv_has ls 4 [(0, .ref M.o), (1, .int y_1), (2, .int y_2)] → W p l e ({ frames := 7, cells := 0, slots := 0, locals := 221 }) s m ([.ref M.o] : List Value).toArray below meth c H locs 0 0 Q (F0 m 26 ls [])), ∀ (y_2 : Int32) (z_0 : Int32) (S : MS) (H : Heap) (locs : List Loc) (ls : Array Slot), f_Mo_isName_100 K rec_26 y_2 z_0 S = some (r, S') → va_P (dC, dI) classes (wM M S) H → va_D A (wM M S) → va_S A s.heap H locs → lv_has ls 4 [(0, .ref M.o), (2, .int y_2)] → W p l e ({ frames := 7, cells := 0, slots := 0, locals := 221 }) s m ([.ref M.o] : List Value).toArray below meth c H locs 0 0 Q (F0 m 100 ls [.int z_0]) := by
    intro rec_26 hr_26 y_2 z_0 S H locs ls h hP hD hS hl
    rw [f_Mo_isName_100] at h
    refine lv_istore_n (lv' := [(1, .int z_0), (0, .ref M.o), (2, .int y_2)]) hx hb d_Mo_isName_100 rfl hl (by decide) rfl (fun ls hl => ?_)
    obtain ⟨x_20, ex_20, h⟩ := lf_lX h
    refine lv_iinc (v := x_20) (lv' := [(2, .int x_20), (1, .int z_0), (0, .ref M.o)]) hx hb d_Mo_isName_101 hl (k := 2) rfl (by rw [ex_20]; rfl) (by decide) rfl (fun ls hl => ?_)
    refine lv_goto (tgt := 26) hx hb d_Mo_isName_104 (by decide) ?_
    exact hr_26 z_0 x_20 S _ _ _ h hP hD hS (lv_sub hl [2, 1, 0] rfl)
  have hB_95 : ∀ (rec_26 : Int32 → Int32 → MS → Option (Int32 × MS)) (hr_26 : ∀ (y_1 : Int32) (y_2 : Int32) (S : MS) (H : Heap) (locs : List Loc) (ls : Array Slot), rec_26 y_1 y_2 S = some (r, S') → va_P (dC, dI) classes (wM M S) H → va_D A (wM M S) → va_S A s.heap H locs → lv_has ls 4 [(0, .ref M.o), (1, .int y_1), (2, .int y_2)] → W p l e ({ frames := 7, cells := 0, slots := 0, locals := 221 }) s m ([.ref M.o] : List Value).toArray below meth c H locs 0 0 Q (F0 m 26 ls [])), ∀ (y_2 : Int32) (S : MS) (H : Heap) (locs : List Loc) (ls : Array Slot), f_Mo_isName_95 K rec_26 y_2 S = some (r, S') → va_P (dC, dI) classes (wM M S) H → va_D A (wM M S) → va_S A s.heap H locs → lv_has ls 4 [(0, .ref M.o), (2, .int y_2)] → W p l e ({ frames := 7, cells := 0, slots := 0, locals := 221 }) s m ([.ref M.o] : List Value).toArray below meth c H locs 0 0 Q (F0 m 95 ls []) := by
    intro rec_26 hr_26 y_2 S H locs ls h hP hD hS hl
    rw [f_Mo_isName_95] at h
    refine lv_iconst (v := 1) hx hb d_Mo_isName_95 (by decide) ?_
    refine lv_goto (tgt := 100) hx hb d_Mo_isName_96 (by decide) ?_
    exact hB_100 _ hr_26 y_2 1 S _ _ _ h hP hD hS (lv_sub hl [0, 1] rfl)
  have hB_99 : ∀ (rec_26 : Int32 → Int32 → MS → Option (Int32 × MS)) (hr_26 : ∀ (y_1 : Int32) (y_2 : Int32) (S : MS) (H : Heap) (locs : List Loc) (ls : Array Slot), rec_26 y_1 y_2 S = some (r, S') → va_P (dC, dI) classes (wM M S) H → va_D A (wM M S) → va_S A s.heap H locs → lv_has ls 4 [(0, .ref M.o), (1, .int y_1), (2, .int y_2)] → W p l e ({ frames := 7, cells := 0, slots := 0, locals := 221 }) s m ([.ref M.o] : List Value).toArray below meth c H locs 0 0 Q (F0 m 26 ls [])), ∀ (y_2 : Int32) (S : MS) (H : Heap) (locs : List Loc) (ls : Array Slot), f_Mo_isName_99 K rec_26 y_2 S = some (r, S') → va_P (dC, dI) classes (wM M S) H → va_D A (wM M S) → va_S A s.heap H locs → lv_has ls 4 [(0, .ref M.o), (2, .int y_2)] → W p l e ({ frames := 7, cells := 0, slots := 0, locals := 221 }) s m ([.ref M.o] : List Value).toArray below meth c H locs 0 0 Q (F0 m 99 ls []) := by
    intro rec_26 hr_26 y_2 S H locs ls h hP hD hS hl
    rw [f_Mo_isName_99] at h
    refine lv_iconst (v := 0) hx hb d_Mo_isName_99 (by decide) ?_
    exact hB_100 _ hr_26 y_2 0 S _ _ _ h hP hD hS (lv_sub hl [0, 1] rfl)
  have hB_71 : ∀ (rec_26 : Int32 → Int32 → MS → Option (Int32 × MS)) (hr_26 : ∀ (y_1 : Int32) (y_2 : Int32) (S : MS) (H : Heap) (locs : List Loc) (ls : Array Slot), rec_26 y_1 y_2 S = some (r, S') → va_P (dC, dI) classes (wM M S) H → va_D A (wM M S) → va_S A s.heap H locs → lv_has ls 4 [(0, .ref M.o), (1, .int y_1), (2, .int y_2)] → W p l e ({ frames := 7, cells := 0, slots := 0, locals := 221 }) s m ([.ref M.o] : List Value).toArray below meth c H locs 0 0 Q (F0 m 26 ls [])), ∀ (y_2 : Int32) (y_3 : Int32) (S : MS) (H : Heap) (locs : List Loc) (ls : Array Slot), f_Mo_isName_71 K rec_26 y_2 y_3 S = some (r, S') → va_P (dC, dI) classes (wM M S) H → va_D A (wM M S) → va_S A s.heap H locs → lv_has ls 4 [(0, .ref M.o), (2, .int y_2), (3, .int y_3)] → W p l e ({ frames := 7, cells := 0, slots := 0, locals := 221 }) s m ([.ref M.o] : List Value).toArray below meth c H locs 0 0 Q (F0 m 71 ls []) := by
    intro rec_26 hr_26 y_2 y_3 S H locs ls h hP hD hS hl
    rw [f_Mo_isName_71] at h
    refine lv_iload_n hx hb d_Mo_isName_71 rfl (lv_at hl 2 rfl) ?_
    refine lv_ldcw (v := 65533) hx hb hown (hts _ (u_Mq_Mo _ k_Mo_186)) d_Mo_isName_72 ?_
    refine lv_icmp_gt (tgt := 99) hx hb d_Mo_isName_75 (by decide) (fun c_16 => ?_) (fun c_16 => ?_)
    · have h := lf_t h c_16
      exact hB_99 _ hr_26 y_2 S _ _ _ h hP hD hS (lv_sub hl [0, 1] rfl)
    · have h := lf_f h c_16
      refine lv_iload_n hx hb d_Mo_isName_78 rfl (lv_at hl 2 rfl) ?_
      refine lv_bipush (v := 127) hx hb d_Mo_isName_79 (by decide) ?_
      refine lv_icmp_gt (tgt := 95) hx hb d_Mo_isName_81 (by decide) (fun c_17 => ?_) (fun c_17 => ?_)
      · have h := lf_t h c_17
        exact hB_95 _ hr_26 y_2 S _ _ _ h hP hD hS (lv_sub hl [0, 1] rfl)
      · have h := lf_f h c_17
        refine x_ldcW hx hb hown (X.str_259 A s hE) d_Mo_isName_84 ?_
        refine lv_iload_n hx hb d_Mo_isName_87 rfl (lv_at hl 2 rfl) ?_
        refine lv_i2c hx hb d_Mo_isName_88 rfl ?_
        obtain ⟨x_18, ex_18, h⟩ := lf_lX h
        have hFc := lx_free0 hS hA
        refine va_calli (va_runV (As := [.int ((y_3.toUInt32 % 65536).toInt32)]) (rest := []) ⟨hx, hb, hml, hown, hts⟩ (X.indexOf_259 _ ((y_3.toUInt32 % 65536).toInt32)) (cwV 1 hts (gwV good_Mq (u_Mq_Mo _ k_Mo_170) (k_Mq_67) (k_Mq_68) (k_Mq_4) (wcs (k_Mq_69) (fun _ h => h))) rfl rfl rfl (by decide +kernel) ⟨Nat.le_of_ble_eq_true rfl, Nat.le_of_ble_eq_true rfl⟩) (pv_ofE (W := []) (tys := []) (X.same _) (fun U z1 z2 => X.mono _ _ U hFc (hEw _ _ hS U z1 z2)) (hP.sub (ws' := []) [] rfl) (hK.sub [] rfl) (hD.sub (ws' := []) [] (by decide) rfl) (X.recv_259 _ (lx_s s _) (hEw _ _ hS (lx_s s _) rfl (State.WarmedH.refl s)))) rfl rfl hl.1 rfl (lv_room (Nat.le_of_ble_eq_true rfl)) d_Mo_isName_89 ⟨by decide, by decide⟩) hS (fun q _ h => hFc q h) hFc (fun r_ u t H locs ht hvm hw hB hz1 hk1 hS => ?_)
        rw [hw, ← ex_18]
        have hP := lx_stat (A := A) hP hk1
        refine lv_if_ge (tgt := 99) hx hb d_Mo_isName_92 (by decide) (fun c_19 => ?_) (fun c_19 => ?_)
        · have h := lf_t h c_19
          exact hB_99 _ hr_26 y_2 S _ _ _ h hP hD hS (lv_sub hl [0, 1] rfl)
        · have h := lf_f h c_19
          exact hB_95 _ hr_26 y_2 S _ _ _ h hP hD hS (lv_sub hl [0, 1] rfl)
  have hB_147 : ∀ (S : MS) (H : Heap) (locs : List Loc) (ls : Array Slot), f_Mo_isName_147 K S = some (r, S') → va_P (dC, dI) classes (wM M S) H → va_D A (wM M S) → va_S A s.heap H locs → lv_has ls 4 [] → W p l e ({ frames := 7, cells := 0, slots := 0, locals := 221 }) s m ([.ref M.o] : List Value).toArray below meth c H locs 0 0 Q (F0 m 147 ls []) := by
    intro S H locs ls h hP hD hS hl
    rw [f_Mo_isName_147] at h
    refine lv_iconst (v := 0) hx hb d_Mo_isName_147 (by decide) ?_
    rw [hQ]
    have e1 : (0 : Int32) = r := congrArg Prod.fst (Option.some.inj h)
    have e2 : S = S' := congrArg Prod.snd (Option.some.inj h)
    have hP := lx_newP e2.symm hP
    have hD := lx_newD e2.symm hD
    exact W.zret (v := 0) hx hb hr rfl (fun t ht hW => ⟨⟨0, (), rfl, e1, by rw [ht]; exact hP, va_K.moved hW.alike hK, hD⟩, hS.F ht⟩) hS.2.2 d_Mo_isName_148
  have hB_107 : ∀ (y_1 : Int32) (S : MS) (H : Heap) (locs : List Loc) (ls : Array Slot), f_Mo_isName_107 K y_1 S = some (r, S') → va_P (dC, dI) classes (wM M S) H → va_D A (wM M S) → va_S A s.heap H locs → lv_has ls 4 [(0, .ref M.o), (1, .int y_1)] → W p l e ({ frames := 7, cells := 0, slots := 0, locals := 221 }) s m ([.ref M.o] : List Value).toArray below meth c H locs 0 0 Q (F0 m 107 ls []) := by
    intro y_1 S H locs ls h hP hD hS hl
    rw [f_Mo_isName_107] at h
    refine lv_iload_n hx hb d_Mo_isName_107 rfl (lv_at hl 1 rfl) ?_
    refine lv_if_eq (tgt := 147) hx hb d_Mo_isName_108 (by decide) (fun c_11 => ?_) (fun c_11 => ?_)
    · have h := lf_t h c_11
      exact hB_147 S _ _ _ h hP hD hS (lv_sub hl [] rfl)
    · have h := lf_f h c_11
      refine lv_aload_n hx hb d_Mo_isName_111 rfl (lv_at hl 0 rfl) ?_
      refine va_get (D := (dC, dI)) (ci := 12) (v := .ref M.a_name) (C := R_Mo) (T := F_Mo) (N := 66) hx hb hts (fun w h => u_Mq_Mo w (i_Mo w h)) hown hK hP 0 rfl rfl 38 (by decide) (hts _ (u_Mq_Mo _ k_Mo_45)) (fun _ h9 => h9) rfl d_Mo_isName_112 ?_
      refine lv_aload_n hx hb d_Mo_isName_115 rfl (lv_at hl 0 rfl) ?_
      refine va_get (D := (dC, dI)) (ci := 12) (v := .int S.v_size) (C := R_Mo) (T := F_Mo) (N := 66) hx hb hts (fun w h => u_Mq_Mo w (i_Mo w h)) hown hK hP 0 rfl rfl 39 (by decide) (hts _ (u_Mq_Mo _ k_Mo_46)) (fun _ h9 => h9) rfl d_Mo_isName_116 ?_
      refine lv_iconst (v := 1) hx hb d_Mo_isName_119 (by decide) ?_
      refine lv_isub hx hb d_Mo_isName_120 ?_
      obtain ⟨g_12, h⟩ := lf_gE h
      refine va_cald hx hb hK hP 17 16 rfl rfl g_12 d_Mo_isName_121 ?_
      refine lv_bipush (v := 32) hx hb d_Mo_isName_122 (by decide) ?_
      refine lv_icmp_eq (tgt := 147) hx hb d_Mo_isName_124 (by decide) (fun c_13 => ?_) (fun c_13 => ?_)
      · have h := lf_t h c_13
        exact hB_147 S _ _ _ h hP hD hS (lv_sub hl [] rfl)
      · have h := lf_f h c_13
        refine lv_aload_n hx hb d_Mo_isName_127 rfl (lv_at hl 0 rfl) ?_
        refine va_get (D := (dC, dI)) (ci := 12) (v := .ref M.a_name) (C := R_Mo) (T := F_Mo) (N := 66) hx hb hts (fun w h => u_Mq_Mo w (i_Mo w h)) hown hK hP 0 rfl rfl 38 (by decide) (hts _ (u_Mq_Mo _ k_Mo_45)) (fun _ h9 => h9) rfl d_Mo_isName_128 ?_
        refine lv_aload_n hx hb d_Mo_isName_131 rfl (lv_at hl 0 rfl) ?_
        refine va_get (D := (dC, dI)) (ci := 12) (v := .int S.v_size) (C := R_Mo) (T := F_Mo) (N := 66) hx hb hts (fun w h => u_Mq_Mo w (i_Mo w h)) hown hK hP 0 rfl rfl 39 (by decide) (hts _ (u_Mq_Mo _ k_Mo_46)) (fun _ h9 => h9) rfl d_Mo_isName_132 ?_
        refine lv_iconst (v := 1) hx hb d_Mo_isName_135 (by decide) ?_
        refine lv_isub hx hb d_Mo_isName_136 ?_
        obtain ⟨g_14, h⟩ := lf_gE h
        refine va_cald hx hb hK hP 17 16 rfl rfl g_14 d_Mo_isName_137 ?_
        refine lv_bipush (v := 46) hx hb d_Mo_isName_138 (by decide) ?_
        refine lv_icmp_eq (tgt := 147) hx hb d_Mo_isName_140 (by decide) (fun c_15 => ?_) (fun c_15 => ?_)
        · have h := lf_t h c_15
          exact hB_147 S _ _ _ h hP hD hS (lv_sub hl [] rfl)
        · have h := lf_f h c_15
          refine lv_iconst (v := 1) hx hb d_Mo_isName_143 (by decide) ?_
          refine lv_goto (tgt := 148) hx hb d_Mo_isName_144 (by decide) ?_
          rw [hQ]
          have e1 : (1 : Int32) = r := congrArg Prod.fst (Option.some.inj h)
          have e2 : S = S' := congrArg Prod.snd (Option.some.inj h)
          have hP := lx_newP e2.symm hP
          have hD := lx_newD e2.symm hD
          exact W.zret (v := 1) hx hb hr rfl (fun t ht hW => ⟨⟨1, (), rfl, e1, by rw [ht]; exact hP, va_K.moved hW.alike hK, hD⟩, hS.F ht⟩) hS.2.2 d_Mo_isName_148
  have hB_26 : ∀ (k : Nat), ∀ (y_1 : Int32) (y_2 : Int32) (S : MS) (H : Heap) (locs : List Loc) (ls : Array Slot), f_Mo_isName_26 K k y_1 y_2 S = some (r, S') → va_P (dC, dI) classes (wM M S) H → va_D A (wM M S) → va_S A s.heap H locs → lv_has ls 4 [(0, .ref M.o), (1, .int y_1), (2, .int y_2)] → W p l e ({ frames := 7, cells := 0, slots := 0, locals := 221 }) s m ([.ref M.o] : List Value).toArray below meth c H locs 0 0 Q (F0 m 26 ls []) := by
    intro k
    induction k with
    | zero => intro y_1 y_2 S H locs ls h; exact lf_no h
    | succ k hr_26 =>
      intro y_1 y_2 S H locs ls h hP hD hS hl
      rw [f_Mo_isName_26] at h
      refine lv_iload_n hx hb d_Mo_isName_26 rfl (lv_at hl 2 rfl) ?_
      refine lv_aload_n hx hb d_Mo_isName_27 rfl (lv_at hl 0 rfl) ?_
      refine va_get (D := (dC, dI)) (ci := 12) (v := .int S.v_size) (C := R_Mo) (T := F_Mo) (N := 66) hx hb hts (fun w h => u_Mq_Mo w (i_Mo w h)) hown hK hP 0 rfl rfl 39 (by decide) (hts _ (u_Mq_Mo _ k_Mo_46)) (fun _ h9 => h9) rfl d_Mo_isName_28 ?_
      refine lv_icmp_ge (tgt := 107) hx hb d_Mo_isName_31 (by decide) (fun c_3 => ?_) (fun c_3 => ?_)
      · have h := lf_t h c_3
        exact hB_107 y_1 S _ _ _ h hP hD hS (lv_sub hl [0, 1] rfl)
      · have h := lf_f h c_3
        refine lv_iload_n hx hb d_Mo_isName_34 rfl (lv_at hl 1 rfl) ?_
        refine lv_if_eq (tgt := 107) hx hb d_Mo_isName_35 (by decide) (fun c_4 => ?_) (fun c_4 => ?_)
        · have h := lf_t h c_4
          exact hB_107 y_1 S _ _ _ h hP hD hS (lv_sub hl [0, 1] rfl)
        · have h := lf_f h c_4
          refine lv_aload_n hx hb d_Mo_isName_38 rfl (lv_at hl 0 rfl) ?_
          refine va_get (D := (dC, dI)) (ci := 12) (v := .ref M.a_name) (C := R_Mo) (T := F_Mo) (N := 66) hx hb hts (fun w h => u_Mq_Mo w (i_Mo w h)) hown hK hP 0 rfl rfl 38 (by decide) (hts _ (u_Mq_Mo _ k_Mo_45)) (fun _ h9 => h9) rfl d_Mo_isName_39 ?_
          refine lv_iload_n hx hb d_Mo_isName_42 rfl (lv_at hl 2 rfl) ?_
          obtain ⟨g_5, h⟩ := lf_gE h
          refine va_cald hx hb hK hP 17 16 rfl rfl g_5 d_Mo_isName_43 ?_
          refine lv_topi (fun x_6 ex_6 => ?_)
          have h := lf_lE h ex_6
          refine lv_istore_n (lv' := [(3, .int x_6), (0, .ref M.o), (1, .int y_1), (2, .int y_2)]) hx hb d_Mo_isName_44 rfl hl (by decide) rfl (fun ls hl => ?_)
          refine lv_iload_n hx hb d_Mo_isName_45 rfl (lv_at hl 0 rfl) ?_
          refine lv_bipush (v := 32) hx hb d_Mo_isName_46 (by decide) ?_
          refine lv_icmp_lt (tgt := 99) hx hb d_Mo_isName_48 (by decide) (fun c_7 => ?_) (fun c_7 => ?_)
          · have h := lf_t h c_7
            exact hB_99 _ hr_26 y_2 S _ _ _ h hP hD hS (lv_sub hl [1, 3] rfl)
          · have h := lf_f h c_7
            refine lv_iload_n hx hb d_Mo_isName_51 rfl (lv_at hl 0 rfl) ?_
            refine lv_bipush (v := 127) hx hb d_Mo_isName_52 (by decide) ?_
            refine lv_icmp_eq (tgt := 99) hx hb d_Mo_isName_54 (by decide) (fun c_8 => ?_) (fun c_8 => ?_)
            · have h := lf_t h c_8
              exact hB_99 _ hr_26 y_2 S _ _ _ h hP hD hS (lv_sub hl [1, 3] rfl)
            · have h := lf_f h c_8
              refine lv_iload_n hx hb d_Mo_isName_57 rfl (lv_at hl 0 rfl) ?_
              refine lv_ldcw (v := 55296) hx hb hown (hts _ (u_Mq_Mo _ k_Mo_184)) d_Mo_isName_58 ?_
              refine lv_icmp_lt (tgt := 71) hx hb d_Mo_isName_61 (by decide) (fun c_9 => ?_) (fun c_9 => ?_)
              · have h := lf_t h c_9
                exact hB_71 _ hr_26 y_2 x_6 S _ _ _ h hP hD hS (lv_sub hl [1, 3, 0] rfl)
              · have h := lf_f h c_9
                refine lv_iload_n hx hb d_Mo_isName_64 rfl (lv_at hl 0 rfl) ?_
                refine lv_ldcw (v := 57343) hx hb hown (hts _ (u_Mq_Mo _ k_Mo_185)) d_Mo_isName_65 ?_
                refine lv_icmp_le (tgt := 99) hx hb d_Mo_isName_68 (by decide) (fun c_10 => ?_) (fun c_10 => ?_)
                · have h := lf_t h c_10
                  exact hB_99 _ hr_26 y_2 S _ _ _ h hP hD hS (lv_sub hl [1, 3] rfl)
                · have h := lf_f h c_10
                  exact hB_71 _ hr_26 y_2 x_6 S _ _ _ h hP hD hS (lv_sub hl [1, 3, 0] rfl)
  have hB_23 : ∀ (z_0 : Int32) (S : MS) (H : Heap) (locs : List Loc) (ls : Array Slot), f_Mo_isName_23 K z_0 S = some (r, S') → va_P (dC, dI) classes (wM M S) H → va_D A (wM M S) → va_S A s.heap H locs → lv_has ls 4 [(0, .ref M.o)] → W p l e ({ frames := 7, cells := 0, slots := 0, locals := 221 }) s m ([.ref M.o] : List Value).toArray below meth c H locs 0 0 Q (F0 m 23 ls [.int z_0]) := by
    intro z_0 S H locs ls h hP hD hS hl
    rw [f_Mo_isName_23] at h
    refine lv_istore_n (lv' := [(1, .int z_0), (0, .ref M.o)]) hx hb d_Mo_isName_23 rfl hl (by decide) rfl (fun ls hl => ?_)
    refine lv_iconst (v := 0) hx hb d_Mo_isName_24 (by decide) ?_
    refine lv_istore_n (lv' := [(2, .int 0), (1, .int z_0), (0, .ref M.o)]) hx hb d_Mo_isName_25 rfl hl (by decide) rfl (fun ls hl => ?_)
    exact hB_26 K z_0 0 S _ _ _ h hP hD hS (lv_sub hl [2, 1, 0] rfl)
  have hB_22 : ∀ (S : MS) (H : Heap) (locs : List Loc) (ls : Array Slot), f_Mo_isName_22 K S = some (r, S') → va_P (dC, dI) classes (wM M S) H → va_D A (wM M S) → va_S A s.heap H locs → lv_has ls 4 [(0, .ref M.o)] → W p l e ({ frames := 7, cells := 0, slots := 0, locals := 221 }) s m ([.ref M.o] : List Value).toArray below meth c H locs 0 0 Q (F0 m 22 ls []) := by
    intro S H locs ls h hP hD hS hl
    rw [f_Mo_isName_22] at h
    refine lv_iconst (v := 0) hx hb d_Mo_isName_22 (by decide) ?_
    exact hB_23 0 S _ _ _ h hP hD hS (lv_sub hl [0] rfl)
  rw [f_Mo_isName] at h
  refine lv_aload_n hx hb d_Mo_isName_0 rfl (lv_at hl 0 rfl) ?_
  refine va_get (D := (dC, dI)) (ci := 12) (v := .int S.v_size) (C := R_Mo) (T := F_Mo) (N := 66) hx hb hts (fun w h => u_Mq_Mo w (i_Mo w h)) hown hK hP 0 rfl rfl 39 (by decide) (hts _ (u_Mq_Mo _ k_Mo_46)) (fun _ h9 => h9) rfl d_Mo_isName_1 ?_
  refine lv_iconst (v := 1) hx hb d_Mo_isName_4 (by decide) ?_
  refine lv_icmp_lt (tgt := 22) hx hb d_Mo_isName_5 (by decide) (fun c_1 => ?_) (fun c_1 => ?_)
  · have h := lf_t h c_1
    exact hB_22 S _ _ _ h hP hD hS (lv_sub hl [0] rfl)
  · have h := lf_f h c_1
    refine lv_aload_n hx hb d_Mo_isName_8 rfl (lv_at hl 0 rfl) ?_
    refine va_get (D := (dC, dI)) (ci := 12) (v := .int S.v_size) (C := R_Mo) (T := F_Mo) (N := 66) hx hb hts (fun w h => u_Mq_Mo w (i_Mo w h)) hown hK hP 0 rfl rfl 39 (by decide) (hts _ (u_Mq_Mo _ k_Mo_46)) (fun _ h9 => h9) rfl d_Mo_isName_9 ?_
    refine lv_sipush (v := 255) hx hb d_Mo_isName_12 (by decide) ?_
    refine lv_icmp_gt (tgt := 22) hx hb d_Mo_isName_15 (by decide) (fun c_2 => ?_) (fun c_2 => ?_)
    · have h := lf_t h c_2
      exact hB_22 S _ _ _ h hP hD hS (lv_sub hl [0] rfl)
    · have h := lf_f h c_2
      refine lv_iconst (v := 1) hx hb d_Mo_isName_18 (by decide) ?_
      refine lv_goto (tgt := 23) hx hb d_Mo_isName_19 (by decide) ?_
      exact hB_23 1 S _ _ _ h hP hD hS (lv_sub hl [0] rfl)
set_option maxHeartbeats 4000000 in
set_option maxRecDepth 100000 in
theorem l_Mo_said (l : Launch) (dC : Nat → ClassId) (dI : Nat → Nat → Nat) {K : Nat} {M : MA} {E : (Nat → Prop) → State → Prop} (X : lx_X l dC dI K M E) (sz : Nat) {S S' : MS} {r : Int32} (h : f_Mo_said K S = some (r, S')) : Met l y_Mo_said (.code y_Mo_said b_Mo_said 4 (some .boolean) :: V_Mq) ({ frames := 8, cells := 0, slots := 0, locals := 244 }) (va_Pc [.ref M.o] (fun U => U.heap.size = sz ∧ at_ (dC, dI) (fun _ => True) (wM M S) (tM M) U ∧ E (va_A (wM M S) sz) U)) (va_Qi (fun (r_ : Int32) (u : Unit) => r_ = r) (fun (u : Unit) t => at_ (dC, dI) (va_A (wM M S) sz) (wM M S') (tM M) t) (va_A (wM M S) sz)) 0 0 (va_A (wM M S) sz) := by
  refine Met.ofW (cc := b_Mo_said) (maxL := 4) (ret := (some .boolean)) (by decide) rfl ?_
  intro p e s m args below meth c s₁ B hml hv
  obtain ⟨rfl, hsz, ⟨hP, hK, hD0⟩, hE⟩ := hv
  have hx := B.exec
  have hb := B.bytes
  have hr := B.returns
  have hts0 := atoms_spec (ws := .code y_Mo_said b_Mo_said 4 (some .boolean) :: V_Mq) B.pre
  have hts : ∀ w ∈ V_Mq, w.before ([.ref M.o] : List Value).toArray s = true := fun w h => hts0 w (List.mem_cons_of_mem _ h)
  have hown : s.vm.findClass R_Mo = some m.cls := findClass_of_methodNamed B.named
  subst hsz
  have hD := hD0.self (sz := s.heap.size)
  generalize hAe : va_A (wM M S) s.heap.size = A at hD hE ⊢
  have hA : ∀ q : Nat, s.heap.size ≤ q → A q := fun q h => by rw [← hAe]; exact Or.inr h
  have hS : va_S A s.heap s.heap [] := va_S.rf
  have hP : va_P (dC, dI) classes (wM M S) s.heap := hP
  have hK : va_K (dC, dI) classes (tM M) s := hK
  have hEw : ∀ (H : Heap) (locs : List Loc), va_S A s.heap H locs → ∀ U : State, U.heap = H → s.WarmedH U.vm → E A U := fun H locs hS U hU hW => X.kept A s U H locs hE hS hU hW
  have hl := lv_entry ([.ref M.o]) (n := 4) (Nat.le_of_ble_eq_true rfl)
  rw [lg_entry_eq]
  generalize (lg_sl ([.ref M.o]) ++ List.replicate (4 - (lg_sl ([.ref M.o])).length) Slot.unset).toArray = ls at hl ⊢
  have hl : lv_has ls 4 [(0, .ref M.o)] := hl
  refine qabs (fun Q hQ => ?_)
  have hB_88 : ∀ (S : MS) (H : Heap) (locs : List Loc) (ls : Array Slot), f_Mo_said_88 K S = some (r, S') → va_P (dC, dI) classes (wM M S) H → va_D A (wM M S) → va_S A s.heap H locs → lv_has ls 4 [] → W p l e ({ frames := 8, cells := 0, slots := 0, locals := 244 }) s m ([.ref M.o] : List Value).toArray below meth c H locs 0 0 Q (F0 m 88 ls []) := by
    intro S H locs ls h hP hD hS hl
    rw [f_Mo_said_88] at h
    refine lv_iconst (v := 0) hx hb d_Mo_said_88 (by decide) ?_
    rw [hQ]
    have e1 : (0 : Int32) = r := congrArg Prod.fst (Option.some.inj h)
    have e2 : S = S' := congrArg Prod.snd (Option.some.inj h)
    have hP := lx_newP e2.symm hP
    have hD := lx_newD e2.symm hD
    exact W.zret (v := 0) hx hb hr rfl (fun t ht hW => ⟨⟨0, (), rfl, e1, by rw [ht]; exact hP, va_K.moved hW.alike hK, hD⟩, hS.F ht⟩) hS.2.2 d_Mo_said_89
  have hB_36 : ∀ (k : Nat), ∀ (y_1 : Int32) (y_3 : Int32) (S : MS) (H : Heap) (locs : List Loc) (ls : Array Slot), f_Mo_said_36 K k y_1 y_3 S = some (r, S') → va_P (dC, dI) classes (wM M S) H → va_D A (wM M S) → va_S A s.heap H locs → lv_has ls 4 [(0, .ref M.o), (1, .int y_1), (3, .int y_3)] → W p l e ({ frames := 8, cells := 0, slots := 0, locals := 244 }) s m ([.ref M.o] : List Value).toArray below meth c H locs 0 0 Q (F0 m 36 ls []) := by
    intro k
    induction k with
    | zero => intro y_1 y_3 S H locs ls h; exact lf_no h
    | succ k hr_36 =>
      intro y_1 y_3 S H locs ls h hP hD hS hl
      rw [f_Mo_said_36] at h
      refine lv_iload_n hx hb d_Mo_said_36 rfl (lv_at hl 2 rfl) ?_
      refine lv_iload_n hx hb d_Mo_said_37 rfl (lv_at hl 1 rfl) ?_
      refine lv_icmp_ge (tgt := 61) hx hb d_Mo_said_38 (by decide) (fun c_8 => ?_) (fun c_8 => ?_)
      · have h := lf_t h c_8
        refine lv_aload_n hx hb d_Mo_said_61 rfl (lv_at hl 0 rfl) ?_
        refine va_get (D := (dC, dI)) (ci := 12) (v := .int S.v_size) (C := R_Mo) (T := F_Mo) (N := 66) hx hb hts (fun w h => u_Mq_Mo w (i_Mo w h)) hown hK hP 0 rfl rfl 39 (by decide) (hts _ (u_Mq_Mo _ k_Mo_46)) (fun _ h9 => h9) rfl d_Mo_said_62 ?_
        refine lv_bipush (v := 13) hx hb d_Mo_said_65 (by decide) ?_
        obtain ⟨r_9, hc_9, h⟩ := lf_bE h
        have hFc := lx_free0 hS hA
        refine va_calli (va_runS (As := [.int S.v_size, .int 13]) (rest := []) ⟨hx, hb, hml, hown, hts⟩ (l_Mo_whole l dC dI  _ hc_9) (va_cwS 2 hts (gwS good_Mq (u_Mq_Mo _ k_Mo_178) (u_Mq_Mo _ k_Mo_179) (u_Mq_Mo _ k_Mo_0) (wcs (u_Mq_Mo _ k_Mo_180) (fun _ h => h))) rfl rfl rfl (by decide +kernel) ⟨Nat.le_of_ble_eq_true rfl, Nat.le_of_ble_eq_true rfl⟩) (ps_of (W := []) (tys := []) (hP.sub (ws' := []) [] rfl) (hK.sub [] rfl) (hD.sub (ws' := []) [] (by decide) rfl)) rfl rfl hl.1 rfl (lv_room (Nat.le_of_ble_eq_true rfl)) d_Mo_said_67 ⟨by decide, by decide⟩) hS (fun q _ h => hFc q h) hFc (fun r_ u t H locs ht hvm hw hB hz1 hk1 hS => ?_)
        rw [hw]
        have hP := lx_stat (A := A) hP hk1
        refine lv_bipush (v := 13) hx hb d_Mo_said_70 (by decide) ?_
        refine lv_imul hx hb d_Mo_said_72 ?_
        refine lv_iload_n hx hb d_Mo_said_73 rfl (lv_at hl 1 rfl) ?_
        refine lv_icmp_ne (tgt := 88) hx hb d_Mo_said_74 (by decide) (fun c_10 => ?_) (fun c_10 => ?_)
        · have h := lf_f h c_10
          exact hB_88 S _ _ _ h hP hD hS (lv_sub hl [] rfl)
        · have h := lf_t h c_10
          refine lv_aload_n hx hb d_Mo_said_77 rfl (lv_at hl 0 rfl) ?_
          obtain ⟨r_11, S_11, hc_11, h⟩ := lf_cE h
          have hFc := lx_free hD hS hA
          refine va_calli (va_runV (As := []) (rest := []) ⟨hx, hb, hml, hown, hts⟩ (l_Mo_isName l dC dI X _ hc_11) (cwV 0 hts (gwV good_Mq (u_Mq_Mo _ k_Mo_181) (u_Mq_Mo _ k_Mo_182) (u_Mq_Mo _ k_Mo_500) (u_Mq_Mo _ k_Mo_0) (wcs (u_Mq_Mo _ k_Mo_183) (fun _ h => h))) rfl rfl rfl (by decide +kernel) ⟨Nat.le_of_ble_eq_true rfl, Nat.le_of_ble_eq_true rfl⟩) (pv_ofE (X.same _) (fun U z1 z2 => X.mono _ _ U hFc (hEw _ _ hS U z1 z2)) hP hK hD (va_recv hK hP (ci := 12) (q0 := 0) rfl rfl)) rfl rfl hl.1 rfl (lv_room (Nat.le_of_ble_eq_true rfl)) d_Mo_said_78 ⟨by decide, by decide⟩) hS (fun q _ h => hFc q h) hFc (fun r_ u t H locs ht hvm hw hB hz1 hk1 hS => ?_)
          rw [hw]
          obtain ⟨hP, -, hD⟩ := hB
          rw [ht] at hP
          have hD := lx_dj hD hFc
          refine lv_if_eq (tgt := 88) hx hb d_Mo_said_81 (by decide) (fun c_12 => ?_) (fun c_12 => ?_)
          · have h := lf_t h c_12
            exact hB_88 S_11 _ _ _ h hP hD hS (lv_sub hl [] rfl)
          · have h := lf_f h c_12
            refine lv_iconst (v := 1) hx hb d_Mo_said_84 (by decide) ?_
            refine lv_goto (tgt := 89) hx hb d_Mo_said_85 (by decide) ?_
            rw [hQ]
            have e1 : (1 : Int32) = r := congrArg Prod.fst (Option.some.inj h)
            have e2 : S_11 = S' := congrArg Prod.snd (Option.some.inj h)
            have hP := lx_newP e2.symm hP
            have hD := lx_newD e2.symm hD
            exact W.zret (v := 1) hx hb hr rfl (fun t ht hW => ⟨⟨1, (), rfl, e1, by rw [ht]; exact hP, va_K.moved hW.alike hK, hD⟩, hS.F ht⟩) hS.2.2 d_Mo_said_89
      · have h := lf_f h c_8
        refine lv_aload_n hx hb d_Mo_said_41 rfl (lv_at hl 0 rfl) ?_
        refine va_get (D := (dC, dI)) (ci := 12) (v := .ref M.a_name) (C := R_Mo) (T := F_Mo) (N := 66) hx hb hts (fun w h => u_Mq_Mo w (i_Mo w h)) hown hK hP 0 rfl rfl 38 (by decide) (hts _ (u_Mq_Mo _ k_Mo_45)) (fun _ h9 => h9) rfl d_Mo_said_42 ?_
        refine lv_iload_n hx hb d_Mo_said_45 rfl (lv_at hl 2 rfl) ?_
        obtain ⟨g_13, h⟩ := lf_gE h
        refine va_cald hx hb hK hP 17 16 rfl rfl g_13 d_Mo_said_46 ?_
        refine lv_ldcw (v := 65535) hx hb hown (hts _ (u_Mq_Mo _ k_Mo_177)) d_Mo_said_47 ?_
        refine lv_icmp_eq (tgt := 55) hx hb d_Mo_said_50 (by decide) (fun c_14 => ?_) (fun c_14 => ?_)
        · have h := lf_t h c_14
          obtain ⟨x_15, ex_15, h⟩ := lf_lX h
          refine lv_iinc (v := x_15) (lv' := [(3, .int x_15), (0, .ref M.o), (1, .int y_1)]) hx hb d_Mo_said_55 hl (k := 2) rfl (by rw [ex_15]; rfl) (by decide) rfl (fun ls hl => ?_)
          refine lv_goto (tgt := 36) hx hb d_Mo_said_58 (by decide) ?_
          exact hr_36 y_1 x_15 S _ _ _ h hP hD hS (lv_sub hl [1, 2, 0] rfl)
        · have h := lf_f h c_14
          refine lv_iconst (v := 0) hx hb d_Mo_said_53 (by decide) ?_
          rw [hQ]
          have e1 : (0 : Int32) = r := congrArg Prod.fst (Option.some.inj h)
          have e2 : S = S' := congrArg Prod.snd (Option.some.inj h)
          have hP := lx_newP e2.symm hP
          have hD := lx_newD e2.symm hD
          exact W.zret (v := 0) hx hb hr rfl (fun t ht hW => ⟨⟨0, (), rfl, e1, by rw [ht]; exact hP, va_K.moved hW.alike hK, hD⟩, hS.F ht⟩) hS.2.2 d_Mo_said_54
  have hB_27 : ∀ (y_1 : Int32) (y_2 : Int32) (S : MS) (H : Heap) (locs : List Loc) (ls : Array Slot), f_Mo_said_27 K y_1 y_2 S = some (r, S') → va_P (dC, dI) classes (wM M S) H → va_D A (wM M S) → va_S A s.heap H locs → lv_has ls 4 [(0, .ref M.o), (1, .int y_1), (2, .int y_2)] → W p l e ({ frames := 8, cells := 0, slots := 0, locals := 244 }) s m ([.ref M.o] : List Value).toArray below meth c H locs 0 0 Q (F0 m 27 ls []) := by
    intro y_1 y_2 S H locs ls h hP hD hS hl
    rw [f_Mo_said_27] at h
    refine lv_aload_n hx hb d_Mo_said_27 rfl (lv_at hl 0 rfl) ?_
    refine lv_iload_n hx hb d_Mo_said_28 rfl (lv_at hl 2 rfl) ?_
    refine va_put (D := (dC, dI)) (ci := 12) (v := .int y_2) (ty := .int) (C := R_Mo) (T := F_Mo) (N := 66) hx hb hts (fun w h => u_Mq_Mo w (i_Mo w h)) t_Mo t_Mo_ok n_Mo hown hK hP hD hS 0 rfl rfl 39 (by decide) (hts _ (u_Mq_Mo _ k_Mo_46)) (fun _ h9 => h9) rfl (by decide +kernel) rfl rfl (Nat.le_of_ble_eq_true rfl) d_Mo_said_29 (fun H locs hP hD hS => ?_)
    obtain ⟨S_6, eS_6, h⟩ := lf_lX h
    have hP := lx_newP eS_6 hP
    have hD := lx_newD eS_6 hD
    refine lv_iload_n hx hb d_Mo_said_32 rfl (lv_at hl 2 rfl) ?_
    refine lv_iconst (v := 1) hx hb d_Mo_said_33 (by decide) ?_
    refine lv_iadd hx hb d_Mo_said_34 ?_
    refine lv_topi (fun x_7 ex_7 => ?_)
    have h := lf_lE h ex_7
    refine lv_istore_n (lv' := [(3, .int x_7), (0, .ref M.o), (1, .int y_1), (2, .int y_2)]) hx hb d_Mo_said_35 rfl hl (by decide) rfl (fun ls hl => ?_)
    exact hB_36 K y_1 x_7 S_6 _ _ _ h hP hD hS (lv_sub hl [1, 2, 0] rfl)
  have hB_7 : ∀ (k : Nat), ∀ (y_1 : Int32) (y_2 : Int32) (S : MS) (H : Heap) (locs : List Loc) (ls : Array Slot), f_Mo_said_7 K k y_1 y_2 S = some (r, S') → va_P (dC, dI) classes (wM M S) H → va_D A (wM M S) → va_S A s.heap H locs → lv_has ls 4 [(0, .ref M.o), (1, .int y_1), (2, .int y_2)] → W p l e ({ frames := 8, cells := 0, slots := 0, locals := 244 }) s m ([.ref M.o] : List Value).toArray below meth c H locs 0 0 Q (F0 m 7 ls []) := by
    intro k
    induction k with
    | zero => intro y_1 y_2 S H locs ls h; exact lf_no h
    | succ k hr_7 =>
      intro y_1 y_2 S H locs ls h hP hD hS hl
      rw [f_Mo_said_7] at h
      refine lv_iload_n hx hb d_Mo_said_7 rfl (lv_at hl 2 rfl) ?_
      refine lv_iload_n hx hb d_Mo_said_8 rfl (lv_at hl 1 rfl) ?_
      refine lv_icmp_ge (tgt := 27) hx hb d_Mo_said_9 (by decide) (fun c_2 => ?_) (fun c_2 => ?_)
      · have h := lf_t h c_2
        exact hB_27 y_1 y_2 S _ _ _ h hP hD hS (lv_sub hl [0, 1, 2] rfl)
      · have h := lf_f h c_2
        refine lv_aload_n hx hb d_Mo_said_12 rfl (lv_at hl 0 rfl) ?_
        refine va_get (D := (dC, dI)) (ci := 12) (v := .ref M.a_name) (C := R_Mo) (T := F_Mo) (N := 66) hx hb hts (fun w h => u_Mq_Mo w (i_Mo w h)) hown hK hP 0 rfl rfl 38 (by decide) (hts _ (u_Mq_Mo _ k_Mo_45)) (fun _ h9 => h9) rfl d_Mo_said_13 ?_
        refine lv_iload_n hx hb d_Mo_said_16 rfl (lv_at hl 2 rfl) ?_
        obtain ⟨g_3, h⟩ := lf_gE h
        refine va_cald hx hb hK hP 17 16 rfl rfl g_3 d_Mo_said_17 ?_
        refine lv_if_eq (tgt := 27) hx hb d_Mo_said_18 (by decide) (fun c_4 => ?_) (fun c_4 => ?_)
        · have h := lf_t h c_4
          exact hB_27 y_1 y_2 S _ _ _ h hP hD hS (lv_sub hl [0, 1, 2] rfl)
        · have h := lf_f h c_4
          obtain ⟨x_5, ex_5, h⟩ := lf_lX h
          refine lv_iinc (v := x_5) (lv' := [(2, .int x_5), (0, .ref M.o), (1, .int y_1)]) hx hb d_Mo_said_21 hl (k := 2) rfl (by rw [ex_5]; rfl) (by decide) rfl (fun ls hl => ?_)
          refine lv_goto (tgt := 7) hx hb d_Mo_said_24 (by decide) ?_
          exact hr_7 y_1 x_5 S _ _ _ h hP hD hS (lv_sub hl [1, 2, 0] rfl)
  rw [f_Mo_said] at h
  refine lv_aload_n hx hb d_Mo_said_0 rfl (lv_at hl 0 rfl) ?_
  refine va_get (D := (dC, dI)) (ci := 12) (v := .int S.v_size) (C := R_Mo) (T := F_Mo) (N := 66) hx hb hts (fun w h => u_Mq_Mo w (i_Mo w h)) hown hK hP 0 rfl rfl 39 (by decide) (hts _ (u_Mq_Mo _ k_Mo_46)) (fun _ h9 => h9) rfl d_Mo_said_1 ?_
  refine lv_topi (fun x_1 ex_1 => ?_)
  have h := lf_lE h ex_1
  refine lv_istore_n (lv' := [(1, .int x_1), (0, .ref M.o)]) hx hb d_Mo_said_4 rfl hl (by decide) rfl (fun ls hl => ?_)
  refine lv_iconst (v := 0) hx hb d_Mo_said_5 (by decide) ?_
  refine lv_istore_n (lv' := [(2, .int 0), (1, .int x_1), (0, .ref M.o)]) hx hb d_Mo_said_6 rfl hl (by decide) rfl (fun ls hl => ?_)
  exact hB_7 K x_1 0 S _ _ _ h hP hD hS (lv_sub hl [2, 1, 0] rfl)
set_option maxHeartbeats 4000000 in
set_option maxRecDepth 100000 in
theorem l_Mo_shown (l : Launch) (dC : Nat → ClassId) (dI : Nat → Nat → Nat) {K : Nat} {M : MA} {E : (Nat → Prop) → State → Prop} (X : lx_X l dC dI K M E) (sz : Nat) {S S' : MS} {p0 : Int32} (h : f_Mo_shown K S p0 = some S') : Met l y_Mo_shown (.code y_Mo_shown b_Mo_shown 3 none :: V_Mq) ({ frames := 1, cells := 0, slots := 0, locals := 21 }) (va_Pc [.ref M.o, .int p0] (fun U => U.heap.size = sz ∧ at_ (dC, dI) (fun _ => True) (wM M S) (tM M) U ∧ E (va_A (wM M S) sz) U)) (va_Qv (fun (u : Unit) => True) (fun (u : Unit) t => at_ (dC, dI) (va_A (wM M S) sz) (wM M S') (tM M) t) (va_A (wM M S) sz)) 0 0 (va_A (wM M S) sz) := by
  refine Met.ofW (cc := b_Mo_shown) (maxL := 3) (ret := none) (by decide) rfl ?_
  intro p e s m args below meth c s₁ B hml hv
  obtain ⟨rfl, hsz, ⟨hP, hK, hD0⟩, hE⟩ := hv
  have hx := B.exec
  have hb := B.bytes
  have hr := B.returns
  have hts0 := atoms_spec (ws := .code y_Mo_shown b_Mo_shown 3 none :: V_Mq) B.pre
  have hts : ∀ w ∈ V_Mq, w.before ([.ref M.o, .int p0] : List Value).toArray s = true := fun w h => hts0 w (List.mem_cons_of_mem _ h)
  have hown : s.vm.findClass R_Mo = some m.cls := findClass_of_methodNamed B.named
  subst hsz
  have hD := hD0.self (sz := s.heap.size)
  generalize hAe : va_A (wM M S) s.heap.size = A at hD hE ⊢
  have hA : ∀ q : Nat, s.heap.size ≤ q → A q := fun q h => by rw [← hAe]; exact Or.inr h
  have hS : va_S A s.heap s.heap [] := va_S.rf
  have hP : va_P (dC, dI) classes (wM M S) s.heap := hP
  have hK : va_K (dC, dI) classes (tM M) s := hK
  have hEw : ∀ (H : Heap) (locs : List Loc), va_S A s.heap H locs → ∀ U : State, U.heap = H → s.WarmedH U.vm → E A U := fun H locs hS U hU hW => X.kept A s U H locs hE hS hU hW
  have hl := lv_entry ([.ref M.o, .int p0]) (n := 3) (Nat.le_of_ble_eq_true rfl)
  rw [lg_entry_eq]
  generalize (lg_sl ([.ref M.o, .int p0]) ++ List.replicate (3 - (lg_sl ([.ref M.o, .int p0])).length) Slot.unset).toArray = ls at hl ⊢
  have hl : lv_has ls 3 [(0, .ref M.o), (1, .int p0)] := hl
  refine qabs (fun Q hQ => ?_)
  have hB_95 : ∀ (rec_7 : Int32 → Int32 → MS → Option (MS)) (hr_7 : ∀ (y_1 : Int32) (y_2 : Int32) (S : MS) (H : Heap) (locs : List Loc) (ls : Array Slot), rec_7 y_1 y_2 S = some S' → va_P (dC, dI) classes (wM M S) H → va_D A (wM M S) → va_S A s.heap H locs → lv_has ls 3 [(0, .ref M.o), (1, .int y_1), (2, .int y_2)] → W p l e ({ frames := 1, cells := 0, slots := 0, locals := 21 }) s m ([.ref M.o, .int p0] : List Value).toArray below meth c H locs 0 0 Q (F0 m 7 ls [])), ∀ (y_1 : Int32) (y_2 : Int32) (S : MS) (H : Heap) (locs : List Loc) (ls : Array Slot), f_Mo_shown_95 K rec_7 y_1 y_2 S = some S' → va_P (dC, dI) classes (wM M S) H → va_D A (wM M S) → va_S A s.heap H locs → lv_has ls 3 [(0, .ref M.o), (1, .int y_1), (2, .int y_2)] → W p l e ({ frames := 1, cells := 0, slots := 0, locals := 21 }) s m ([.ref M.o, .int p0] : List Value).toArray below meth c H locs 0 0 Q (F0 m 95 ls []) := by
    intro rec_7 hr_7 y_1 y_2 S H locs ls h hP hD hS hl
    rw [f_Mo_shown_95] at h
    obtain ⟨x_15, ex_15, h⟩ := lf_lX h
    refine lv_iinc (v := x_15) (lv' := [(2, .int x_15), (0, .ref M.o), (1, .int y_1)]) hx hb d_Mo_shown_95 hl (k := 2) rfl (by rw [ex_15]; rfl) (by decide) rfl (fun ls hl => ?_)
    refine lv_goto (tgt := 7) hx hb d_Mo_shown_98 (by decide) ?_
    exact hr_7 y_1 x_15 S _ _ _ h hP hD hS (lv_sub hl [1, 2, 0] rfl)
  have hB_53 : ∀ (rec_7 : Int32 → Int32 → MS → Option (MS)) (hr_7 : ∀ (y_1 : Int32) (y_2 : Int32) (S : MS) (H : Heap) (locs : List Loc) (ls : Array Slot), rec_7 y_1 y_2 S = some S' → va_P (dC, dI) classes (wM M S) H → va_D A (wM M S) → va_S A s.heap H locs → lv_has ls 3 [(0, .ref M.o), (1, .int y_1), (2, .int y_2)] → W p l e ({ frames := 1, cells := 0, slots := 0, locals := 21 }) s m ([.ref M.o, .int p0] : List Value).toArray below meth c H locs 0 0 Q (F0 m 7 ls [])), ∀ (y_1 : Int32) (y_2 : Int32) (S : MS) (H : Heap) (locs : List Loc) (ls : Array Slot), f_Mo_shown_53 K rec_7 y_1 y_2 S = some S' → va_P (dC, dI) classes (wM M S) H → va_D A (wM M S) → va_S A s.heap H locs → lv_has ls 3 [(0, .ref M.o), (1, .int y_1), (2, .int y_2)] → W p l e ({ frames := 1, cells := 0, slots := 0, locals := 21 }) s m ([.ref M.o, .int p0] : List Value).toArray below meth c H locs 0 0 Q (F0 m 53 ls []) := by
    intro rec_7 hr_7 y_1 y_2 S H locs ls h hP hD hS hl
    rw [f_Mo_shown_53] at h
    refine lv_aload_n hx hb d_Mo_shown_53 rfl (lv_at hl 0 rfl) ?_
    refine lv_iload_n hx hb d_Mo_shown_54 rfl (lv_at hl 1 rfl) ?_
    refine lv_iload_n hx hb d_Mo_shown_55 rfl (lv_at hl 2 rfl) ?_
    refine lv_iadd hx hb d_Mo_shown_56 ?_
    obtain ⟨r_9, S_9, hc_9, h⟩ := lf_cE h
    have hFc := lx_free hD hS hA
    refine va_calli (va_runV (As := [.int (y_1 + y_2)]) (rest := []) ⟨hx, hb, hml, hown, hts⟩ (l_Mo_one l dC dI X _ hc_9) (cwV 1 hts (gwV good_Mq (u_Mq_Mo _ k_Mo_94) (u_Mq_Mo _ k_Mo_95) (u_Mq_Mo _ k_Mo_475) (u_Mq_Mo _ k_Mo_0) (wcs (u_Mq_Mo _ k_Mo_96) (fun _ h => h))) rfl rfl rfl (by decide +kernel) ⟨Nat.le_of_ble_eq_true rfl, Nat.le_of_ble_eq_true rfl⟩) (pv_ofE (X.same _) (fun U z1 z2 => X.mono _ _ U hFc (hEw _ _ hS U z1 z2)) hP hK hD (va_recv hK hP (ci := 12) (q0 := 0) rfl rfl)) rfl rfl hl.1 rfl (lv_room (Nat.le_of_ble_eq_true rfl)) d_Mo_shown_57 ⟨by decide, by decide⟩) hS (fun q _ h => hFc q h) hFc (fun r_ u t H locs ht hvm hw hB hz1 hk1 hS => ?_)
    rw [hw]
    obtain ⟨hP, -, hD⟩ := hB
    rw [ht] at hP
    have hD := lx_dj hD hFc
    refine lv_bipush (v := 32) hx hb d_Mo_shown_60 (by decide) ?_
    refine lv_icmp_ne (tgt := 68) hx hb d_Mo_shown_62 (by decide) (fun c_10 => ?_) (fun c_10 => ?_)
    · have h := lf_f h c_10
      refine lv_aload_n hx hb d_Mo_shown_68 rfl (lv_at hl 0 rfl) ?_
      refine va_get (D := (dC, dI)) (ci := 12) (v := .ref M.a_name) (C := R_Mo) (T := F_Mo) (N := 66) hx hb hts (fun w h => u_Mq_Mo w (i_Mo w h)) hown hK hP 0 rfl rfl 38 (by decide) (hts _ (u_Mq_Mo _ k_Mo_45)) (fun _ h9 => h9) rfl d_Mo_shown_69 ?_
      refine lv_aload_n hx hb d_Mo_shown_72 rfl (lv_at hl 0 rfl) ?_
      refine va_get (D := (dC, dI)) (ci := 12) (v := .int S_9.v_size) (C := R_Mo) (T := F_Mo) (N := 66) hx hb hts (fun w h => u_Mq_Mo w (i_Mo w h)) hown hK hP 0 rfl rfl 39 (by decide) (hts _ (u_Mq_Mo _ k_Mo_46)) (fun _ h9 => h9) rfl d_Mo_shown_73 ?_
      refine lv_aload_n hx hb d_Mo_shown_76 rfl (lv_at hl 0 rfl) ?_
      refine lv_iload_n hx hb d_Mo_shown_77 rfl (lv_at hl 1 rfl) ?_
      refine lv_iload_n hx hb d_Mo_shown_78 rfl (lv_at hl 2 rfl) ?_
      refine lv_iadd hx hb d_Mo_shown_79 ?_
      obtain ⟨r_11, S_11, hc_11, h⟩ := lf_cE h
      have hFc := lx_free hD hS hA
      refine va_calli (va_runV (As := [.int (y_1 + y_2)]) (rest := [.int S_9.v_size, .ref M.a_name]) ⟨hx, hb, hml, hown, hts⟩ (l_Mo_one l dC dI X _ hc_11) (cwV 1 hts (gwV good_Mq (u_Mq_Mo _ k_Mo_94) (u_Mq_Mo _ k_Mo_95) (u_Mq_Mo _ k_Mo_475) (u_Mq_Mo _ k_Mo_0) (wcs (u_Mq_Mo _ k_Mo_96) (fun _ h => h))) rfl rfl rfl (by decide +kernel) ⟨Nat.le_of_ble_eq_true rfl, Nat.le_of_ble_eq_true rfl⟩) (pv_ofE (X.same _) (fun U z1 z2 => X.mono _ _ U hFc (hEw _ _ hS U z1 z2)) hP hK hD (va_recv hK hP (ci := 12) (q0 := 0) rfl rfl)) rfl rfl hl.1 rfl (lv_room (Nat.le_of_ble_eq_true rfl)) d_Mo_shown_80 ⟨by decide, by decide⟩) hS (fun q _ h => hFc q h) hFc (fun r_ u t H locs ht hvm hw hB hz1 hk1 hS => ?_)
      rw [hw]
      obtain ⟨hP, -, hD⟩ := hB
      rw [ht] at hP
      have hD := lx_dj hD hFc
      refine lv_i2c hx hb d_Mo_shown_83 rfl ?_
      obtain ⟨g_12, h⟩ := lf_gE h
      refine va_cast hx hb hK hP hD hS 17 16 rfl rfl g_12 d_Mo_shown_84 (fun H locs hP hD hS => ?_)
      obtain ⟨S_13, eS_13, h⟩ := lf_lX h
      have hP := lx_newP eS_13 hP
      have hD := lx_newD eS_13 hD
      refine lv_aload_n hx hb d_Mo_shown_85 rfl (lv_at hl 0 rfl) ?_
      refine lv_dup hx hb d_Mo_shown_86 rfl ?_
      refine va_get (D := (dC, dI)) (ci := 12) (v := .int S_13.v_size) (C := R_Mo) (T := F_Mo) (N := 66) hx hb hts (fun w h => u_Mq_Mo w (i_Mo w h)) hown hK hP 0 rfl rfl 39 (by decide) (hts _ (u_Mq_Mo _ k_Mo_46)) (fun _ h9 => h9) rfl d_Mo_shown_87 ?_
      refine lv_iconst (v := 1) hx hb d_Mo_shown_90 (by decide) ?_
      refine lv_iadd hx hb d_Mo_shown_91 ?_
      refine va_put (D := (dC, dI)) (ci := 12) (v := .int (S_13.v_size + 1)) (ty := .int) (C := R_Mo) (T := F_Mo) (N := 66) hx hb hts (fun w h => u_Mq_Mo w (i_Mo w h)) t_Mo t_Mo_ok n_Mo hown hK hP hD hS 0 rfl rfl 39 (by decide) (hts _ (u_Mq_Mo _ k_Mo_46)) (fun _ h9 => h9) rfl (by decide +kernel) rfl rfl (Nat.le_of_ble_eq_true rfl) d_Mo_shown_92 (fun H locs hP hD hS => ?_)
      obtain ⟨S_14, eS_14, h⟩ := lf_lX h
      have hP := lx_newP eS_14 hP
      have hD := lx_newD eS_14 hD
      exact hB_95 _ hr_7 y_1 y_2 S_14 _ _ _ h hP hD hS (lv_sub hl [0, 1, 2] rfl)
    · have h := lf_t h c_10
      refine lv_goto (tgt := 95) hx hb d_Mo_shown_65 (by decide) ?_
      exact hB_95 _ hr_7 y_1 y_2 S_9 _ _ _ h hP hD hS (lv_sub hl [0, 1, 2] rfl)
  have hB_7 : ∀ (k : Nat), ∀ (y_1 : Int32) (y_2 : Int32) (S : MS) (H : Heap) (locs : List Loc) (ls : Array Slot), f_Mo_shown_7 K k y_1 y_2 S = some S' → va_P (dC, dI) classes (wM M S) H → va_D A (wM M S) → va_S A s.heap H locs → lv_has ls 3 [(0, .ref M.o), (1, .int y_1), (2, .int y_2)] → W p l e ({ frames := 1, cells := 0, slots := 0, locals := 21 }) s m ([.ref M.o, .int p0] : List Value).toArray below meth c H locs 0 0 Q (F0 m 7 ls []) := by
    intro k
    induction k with
    | zero => intro y_1 y_2 S H locs ls h; exact lf_no h
    | succ k hr_7 =>
      intro y_1 y_2 S H locs ls h hP hD hS hl
      rw [f_Mo_shown_7] at h
      refine lv_iload_n hx hb d_Mo_shown_7 rfl (lv_at hl 2 rfl) ?_
      refine lv_bipush (v := 11) hx hb d_Mo_shown_8 (by decide) ?_
      refine lv_icmp_ge (tgt := 101) hx hb d_Mo_shown_10 (by decide) (fun c_2 => ?_) (fun c_2 => ?_)
      · have h := lf_t h c_2
        rw [hQ]
        have e2 : S = S' := Option.some.inj h
        have hP := lx_newP e2.symm hP
        have hD := lx_newD e2.symm hD
        exact W.vret hx hb hr (fun t ht hW => ⟨⟨(), rfl, trivial, by rw [ht]; exact hP, va_K.moved hW.alike hK, hD⟩, hS.F ht⟩) hS.2.2 d_Mo_shown_101
      · have h := lf_f h c_2
        refine lv_iload_n hx hb d_Mo_shown_13 rfl (lv_at hl 2 rfl) ?_
        refine lv_bipush (v := 8) hx hb d_Mo_shown_14 (by decide) ?_
        refine lv_icmp_ne (tgt := 53) hx hb d_Mo_shown_16 (by decide) (fun c_3 => ?_) (fun c_3 => ?_)
        · have h := lf_f h c_3
          exact hB_53 _ hr_7 y_1 y_2 S _ _ _ h hP hD hS (lv_sub hl [0, 1, 2] rfl)
        · have h := lf_t h c_3
          refine lv_aload_n hx hb d_Mo_shown_19 rfl (lv_at hl 0 rfl) ?_
          refine lv_iload_n hx hb d_Mo_shown_20 rfl (lv_at hl 1 rfl) ?_
          refine lv_bipush (v := 8) hx hb d_Mo_shown_21 (by decide) ?_
          refine lv_iadd hx hb d_Mo_shown_23 ?_
          obtain ⟨r_4, S_4, hc_4, h⟩ := lf_cE h
          have hFc := lx_free hD hS hA
          refine va_calli (va_runV (As := [.int (y_1 + 8)]) (rest := []) ⟨hx, hb, hml, hown, hts⟩ (l_Mo_one l dC dI X _ hc_4) (cwV 1 hts (gwV good_Mq (u_Mq_Mo _ k_Mo_94) (u_Mq_Mo _ k_Mo_95) (u_Mq_Mo _ k_Mo_475) (u_Mq_Mo _ k_Mo_0) (wcs (u_Mq_Mo _ k_Mo_96) (fun _ h => h))) rfl rfl rfl (by decide +kernel) ⟨Nat.le_of_ble_eq_true rfl, Nat.le_of_ble_eq_true rfl⟩) (pv_ofE (X.same _) (fun U z1 z2 => X.mono _ _ U hFc (hEw _ _ hS U z1 z2)) hP hK hD (va_recv hK hP (ci := 12) (q0 := 0) rfl rfl)) rfl rfl hl.1 rfl (lv_room (Nat.le_of_ble_eq_true rfl)) d_Mo_shown_24 ⟨by decide, by decide⟩) hS (fun q _ h => hFc q h) hFc (fun r_ u t H locs ht hvm hw hB hz1 hk1 hS => ?_)
          rw [hw]
          obtain ⟨hP, -, hD⟩ := hB
          rw [ht] at hP
          have hD := lx_dj hD hFc
          refine lv_bipush (v := 32) hx hb d_Mo_shown_27 (by decide) ?_
          refine lv_icmp_eq (tgt := 53) hx hb d_Mo_shown_29 (by decide) (fun c_5 => ?_) (fun c_5 => ?_)
          · have h := lf_t h c_5
            exact hB_53 _ hr_7 y_1 y_2 S_4 _ _ _ h hP hD hS (lv_sub hl [0, 1, 2] rfl)
          · have h := lf_f h c_5
            refine lv_aload_n hx hb d_Mo_shown_32 rfl (lv_at hl 0 rfl) ?_
            refine va_get (D := (dC, dI)) (ci := 12) (v := .ref M.a_name) (C := R_Mo) (T := F_Mo) (N := 66) hx hb hts (fun w h => u_Mq_Mo w (i_Mo w h)) hown hK hP 0 rfl rfl 38 (by decide) (hts _ (u_Mq_Mo _ k_Mo_45)) (fun _ h9 => h9) rfl d_Mo_shown_33 ?_
            refine lv_aload_n hx hb d_Mo_shown_36 rfl (lv_at hl 0 rfl) ?_
            refine va_get (D := (dC, dI)) (ci := 12) (v := .int S_4.v_size) (C := R_Mo) (T := F_Mo) (N := 66) hx hb hts (fun w h => u_Mq_Mo w (i_Mo w h)) hown hK hP 0 rfl rfl 39 (by decide) (hts _ (u_Mq_Mo _ k_Mo_46)) (fun _ h9 => h9) rfl d_Mo_shown_37 ?_
            refine lv_bipush (v := 46) hx hb d_Mo_shown_40 (by decide) ?_
            obtain ⟨g_6, h⟩ := lf_gE h
            refine va_cast hx hb hK hP hD hS 17 16 rfl rfl g_6 d_Mo_shown_42 (fun H locs hP hD hS => ?_)
            obtain ⟨S_7, eS_7, h⟩ := lf_lX h
            have hP := lx_newP eS_7 hP
            have hD := lx_newD eS_7 hD
            refine lv_aload_n hx hb d_Mo_shown_43 rfl (lv_at hl 0 rfl) ?_
            refine lv_dup hx hb d_Mo_shown_44 rfl ?_
            refine va_get (D := (dC, dI)) (ci := 12) (v := .int S_7.v_size) (C := R_Mo) (T := F_Mo) (N := 66) hx hb hts (fun w h => u_Mq_Mo w (i_Mo w h)) hown hK hP 0 rfl rfl 39 (by decide) (hts _ (u_Mq_Mo _ k_Mo_46)) (fun _ h9 => h9) rfl d_Mo_shown_45 ?_
            refine lv_iconst (v := 1) hx hb d_Mo_shown_48 (by decide) ?_
            refine lv_iadd hx hb d_Mo_shown_49 ?_
            refine va_put (D := (dC, dI)) (ci := 12) (v := .int (S_7.v_size + 1)) (ty := .int) (C := R_Mo) (T := F_Mo) (N := 66) hx hb hts (fun w h => u_Mq_Mo w (i_Mo w h)) t_Mo t_Mo_ok n_Mo hown hK hP hD hS 0 rfl rfl 39 (by decide) (hts _ (u_Mq_Mo _ k_Mo_46)) (fun _ h9 => h9) rfl (by decide +kernel) rfl rfl (Nat.le_of_ble_eq_true rfl) d_Mo_shown_50 (fun H locs hP hD hS => ?_)
            obtain ⟨S_8, eS_8, h⟩ := lf_lX h
            have hP := lx_newP eS_8 hP
            have hD := lx_newD eS_8 hD
            exact hB_53 _ hr_7 y_1 y_2 S_8 _ _ _ h hP hD hS (lv_sub hl [0, 1, 2] rfl)
  rw [f_Mo_shown] at h
  refine lv_aload_n hx hb d_Mo_shown_0 rfl (lv_at hl 0 rfl) ?_
  refine lv_iconst (v := 0) hx hb d_Mo_shown_1 (by decide) ?_
  refine va_put (D := (dC, dI)) (ci := 12) (v := .int 0) (ty := .int) (C := R_Mo) (T := F_Mo) (N := 66) hx hb hts (fun w h => u_Mq_Mo w (i_Mo w h)) t_Mo t_Mo_ok n_Mo hown hK hP hD hS 0 rfl rfl 39 (by decide) (hts _ (u_Mq_Mo _ k_Mo_46)) (fun _ h9 => h9) rfl (by decide +kernel) rfl rfl (Nat.le_of_ble_eq_true rfl) d_Mo_shown_2 (fun H locs hP hD hS => ?_)
  obtain ⟨S_1, eS_1, h⟩ := lf_lX h
  have hP := lx_newP eS_1 hP
  have hD := lx_newD eS_1 hD
  refine lv_iconst (v := 0) hx hb d_Mo_shown_5 (by decide) ?_
  refine lv_istore_n (lv' := [(2, .int 0), (0, .ref M.o), (1, .int p0)]) hx hb d_Mo_shown_6 rfl hl (by decide) rfl (fun ls hl => ?_)
  exact hB_7 K p0 0 S_1 _ _ _ h hP hD hS (lv_sub hl [1, 2, 0] rfl)
set_option maxHeartbeats 4000000 in
set_option maxRecDepth 100000 in
theorem l_Mo_capital (l : Launch) (dC : Nat → ClassId) (dI : Nat → Nat → Nat) {K : Nat} (sz : Nat) {p0 : Int32} {r : Int32} (h : f_Mo_capital K p0 = some r) : Met l y_Mo_capital (.code y_Mo_capital b_Mo_capital 1 (some .int) :: V_Mq) ({ frames := 0, cells := 0, slots := 0, locals := 0 }) (va_Pc [.int p0] (fun U => U.heap.size = sz ∧ at_ (dC, dI) (fun _ => True) [] [] U)) (va_Qi (fun (r_ : Int32) (u : Unit) => r_ = r) (fun (u : Unit) t => at_ (dC, dI) (va_A [] sz) [] [] t) (va_A [] sz)) 0 0 (va_A [] sz) := by
  refine Met.ofW (cc := b_Mo_capital) (maxL := 1) (ret := (some .int)) (by decide) rfl ?_
  intro p e s m args below meth c s₁ B hml hv
  obtain ⟨rfl, hsz, hP, hK, hD0⟩ := hv
  have hx := B.exec
  have hb := B.bytes
  have hr := B.returns
  have hts0 := atoms_spec (ws := .code y_Mo_capital b_Mo_capital 1 (some .int) :: V_Mq) B.pre
  have hts : ∀ w ∈ V_Mq, w.before ([.int p0] : List Value).toArray s = true := fun w h => hts0 w (List.mem_cons_of_mem _ h)
  have hown : s.vm.findClass R_Mo = some m.cls := findClass_of_methodNamed B.named
  subst hsz
  have hD := hD0.self (sz := s.heap.size)
  generalize hAe : va_A [] s.heap.size = A at hD ⊢
  have hA : ∀ q : Nat, s.heap.size ≤ q → A q := fun q h => by rw [← hAe]; exact Or.inr h
  have hS : va_S A s.heap s.heap [] := va_S.rf
  have hP : va_P (dC, dI) classes [] s.heap := hP
  have hK : va_K (dC, dI) classes [] s := hK
  have hl := lv_entry ([.int p0]) (n := 1) (Nat.le_of_ble_eq_true rfl)
  rw [lg_entry_eq]
  generalize (lg_sl ([.int p0]) ++ List.replicate (1 - (lg_sl ([.int p0])).length) Slot.unset).toArray = ls at hl ⊢
  have hl : lv_has ls 1 [(0, .int p0)] := hl
  refine qabs (fun Q hQ => ?_)
  have hB_19 : ∀ (y_0 : Int32) (H : Heap) (locs : List Loc) (ls : Array Slot), f_Mo_capital_19 K y_0 = some r → va_P (dC, dI) classes [] H → va_D A [] → va_S A s.heap H locs → lv_has ls 1 [(0, .int y_0)] → W p l e ({ frames := 0, cells := 0, slots := 0, locals := 0 }) s m ([.int p0] : List Value).toArray below meth c H locs 0 0 Q (F0 m 19 ls []) := by
    intro y_0 H locs ls h hP hD hS hl
    rw [f_Mo_capital_19] at h
    refine lv_iload_n hx hb d_Mo_capital_19 rfl (lv_at hl 0 rfl) ?_
    rw [hQ]
    have e1 : y_0 = r := Option.some.inj h
    exact W.iret (v := y_0) hx hb hr (fun t ht hW => ⟨⟨y_0, (), rfl, e1, by rw [ht]; exact hP, va_K.moved hW.alike hK, hD⟩, hS.F ht⟩) hS.2.2 d_Mo_capital_20
  rw [f_Mo_capital] at h
  refine lv_iload_n hx hb d_Mo_capital_0 rfl (lv_at hl 0 rfl) ?_
  refine lv_bipush (v := 97) hx hb d_Mo_capital_1 (by decide) ?_
  refine lv_icmp_lt (tgt := 19) hx hb d_Mo_capital_3 (by decide) (fun c_1 => ?_) (fun c_1 => ?_)
  · have h := lf_t h c_1
    exact hB_19 p0 _ _ _ h hP hD hS (lv_sub hl [0] rfl)
  · have h := lf_f h c_1
    refine lv_iload_n hx hb d_Mo_capital_6 rfl (lv_at hl 0 rfl) ?_
    refine lv_bipush (v := 122) hx hb d_Mo_capital_7 (by decide) ?_
    refine lv_icmp_gt (tgt := 19) hx hb d_Mo_capital_9 (by decide) (fun c_2 => ?_) (fun c_2 => ?_)
    · have h := lf_t h c_2
      exact hB_19 p0 _ _ _ h hP hD hS (lv_sub hl [0] rfl)
    · have h := lf_f h c_2
      refine lv_iload_n hx hb d_Mo_capital_12 rfl (lv_at hl 0 rfl) ?_
      refine lv_bipush (v := 32) hx hb d_Mo_capital_13 (by decide) ?_
      refine lv_isub hx hb d_Mo_capital_15 ?_
      refine lv_goto (tgt := 20) hx hb d_Mo_capital_16 (by decide) ?_
      rw [hQ]
      have e1 : (p0 - 32) = r := Option.some.inj h
      exact W.iret (v := (p0 - 32)) hx hb hr (fun t ht hW => ⟨⟨(p0 - 32), (), rfl, e1, by rw [ht]; exact hP, va_K.moved hW.alike hK, hD⟩, hS.F ht⟩) hS.2.2 d_Mo_capital_20
set_option maxHeartbeats 4000000 in
set_option maxRecDepth 100000 in
theorem l_Mo_isAlike (l : Launch) (dC : Nat → ClassId) (dI : Nat → Nat → Nat) {K : Nat} {M : MA} {E : (Nat → Prop) → State → Prop} (X : lx_X l dC dI K M E) (sz : Nat) {S S' : MS} {p0 : Int32} {r : Int32} (h : f_Mo_isAlike K S p0 = some (r, S')) : Met l y_Mo_isAlike (.code y_Mo_isAlike b_Mo_isAlike 4 (some .boolean) :: V_Mq) ({ frames := 1, cells := 0, slots := 0, locals := 20 }) (va_Pc [.ref M.o, .int p0] (fun U => U.heap.size = sz ∧ at_ (dC, dI) (fun _ => True) (wM M S) (tM M) U ∧ E (va_A (wM M S) sz) U)) (va_Qi (fun (r_ : Int32) (u : Unit) => r_ = r) (fun (u : Unit) t => at_ (dC, dI) (va_A (wM M S) sz) (wM M S') (tM M) t) (va_A (wM M S) sz)) 0 0 (va_A (wM M S) sz) := by
  refine Met.ofW (cc := b_Mo_isAlike) (maxL := 4) (ret := (some .boolean)) (by decide) rfl ?_
  intro p e s m args below meth c s₁ B hml hv
  obtain ⟨rfl, hsz, ⟨hP, hK, hD0⟩, hE⟩ := hv
  have hx := B.exec
  have hb := B.bytes
  have hr := B.returns
  have hts0 := atoms_spec (ws := .code y_Mo_isAlike b_Mo_isAlike 4 (some .boolean) :: V_Mq) B.pre
  have hts : ∀ w ∈ V_Mq, w.before ([.ref M.o, .int p0] : List Value).toArray s = true := fun w h => hts0 w (List.mem_cons_of_mem _ h)
  have hown : s.vm.findClass R_Mo = some m.cls := findClass_of_methodNamed B.named
  subst hsz
  have hD := hD0.self (sz := s.heap.size)
  generalize hAe : va_A (wM M S) s.heap.size = A at hD hE ⊢
  have hA : ∀ q : Nat, s.heap.size ≤ q → A q := fun q h => by rw [← hAe]; exact Or.inr h
  have hS : va_S A s.heap s.heap [] := va_S.rf
  have hP : va_P (dC, dI) classes (wM M S) s.heap := hP
  have hK : va_K (dC, dI) classes (tM M) s := hK
  have hEw : ∀ (H : Heap) (locs : List Loc), va_S A s.heap H locs → ∀ U : State, U.heap = H → s.WarmedH U.vm → E A U := fun H locs hS U hU hW => X.kept A s U H locs hE hS hU hW
  have hl := lv_entry ([.ref M.o, .int p0]) (n := 4) (Nat.le_of_ble_eq_true rfl)
  rw [lg_entry_eq]
  generalize (lg_sl ([.ref M.o, .int p0]) ++ List.replicate (4 - (lg_sl ([.ref M.o, .int p0])).length) Slot.unset).toArray = ls at hl ⊢
  have hl : lv_has ls 4 [(0, .ref M.o), (1, .int p0)] := hl
  refine qabs (fun Q hQ => ?_)
  have hB_66 : ∀ (rec_21 : Int32 → Int32 → Int32 → MS → Option (Int32 × MS)) (hr_21 : ∀ (y_1 : Int32) (y_2 : Int32) (y_3 : Int32) (S : MS) (H : Heap) (locs : List Loc) (ls : Array Slot), rec_21 y_1 y_2 y_3 S = some (r, S') → va_P (dC, dI) classes (wM M S) H → va_D A (wM M S) → va_S A s.heap H locs → lv_has ls 4 [(0, .ref M.o), (1, .int y_1), (2, .int y_2), (3, .int y_3)] → W p l e ({ frames := 1, cells := 0, slots := 0, locals := 20 }) s m ([.ref M.o, .int p0] : List Value).toArray below meth c H locs 0 0 Q (F0 m 21 ls [])), ∀ (y_1 : Int32) (y_3 : Int32) (z_0 : Int32) (S : MS) (H : Heap) (locs : List Loc) (ls : Array Slot), f_Mo_isAlike_66 K rec_21 y_1 y_3 z_0 S = some (r, S') → va_P (dC, dI) classes (wM M S) H → va_D A (wM M S) → va_S A s.heap H locs → lv_has ls 4 [(0, .ref M.o), (1, .int y_1), (3, .int y_3)] → W p l e ({ frames := 1, cells := 0, slots := 0, locals := 20 }) s m ([.ref M.o, .int p0] : List Value).toArray below meth c H locs 0 0 Q (F0 m 66 ls [.int z_0]) := by
    intro rec_21 hr_21 y_1 y_3 z_0 S H locs ls h hP hD hS hl
    rw [f_Mo_isAlike_66] at h
    refine lv_istore_n (lv' := [(2, .int z_0), (0, .ref M.o), (1, .int y_1), (3, .int y_3)]) hx hb d_Mo_isAlike_66 rfl hl (by decide) rfl (fun ls hl => ?_)
    obtain ⟨x_12, ex_12, h⟩ := lf_lX h
    refine lv_iinc (v := x_12) (lv' := [(3, .int x_12), (2, .int z_0), (0, .ref M.o), (1, .int y_1)]) hx hb d_Mo_isAlike_67 hl (k := 3) rfl (by rw [ex_12]; rfl) (by decide) rfl (fun ls hl => ?_)
    refine lv_goto (tgt := 21) hx hb d_Mo_isAlike_70 (by decide) ?_
    exact hr_21 y_1 z_0 x_12 S _ _ _ h hP hD hS (lv_sub hl [2, 3, 1, 0] rfl)
  have hB_73 : ∀ (y_2 : Int32) (S : MS) (H : Heap) (locs : List Loc) (ls : Array Slot), f_Mo_isAlike_73 K y_2 S = some (r, S') → va_P (dC, dI) classes (wM M S) H → va_D A (wM M S) → va_S A s.heap H locs → lv_has ls 4 [(2, .int y_2)] → W p l e ({ frames := 1, cells := 0, slots := 0, locals := 20 }) s m ([.ref M.o, .int p0] : List Value).toArray below meth c H locs 0 0 Q (F0 m 73 ls []) := by
    intro y_2 S H locs ls h hP hD hS hl
    rw [f_Mo_isAlike_73] at h
    refine lv_iload_n hx hb d_Mo_isAlike_73 rfl (lv_at hl 0 rfl) ?_
    obtain ⟨g_11, h⟩ := lf_gE h
    rw [hQ]
    have e1 : y_2 = r := congrArg Prod.fst (Option.some.inj h)
    have e2 : S = S' := congrArg Prod.snd (Option.some.inj h)
    have hP := lx_newP e2.symm hP
    have hD := lx_newD e2.symm hD
    exact W.zret (v := y_2) hx hb hr (lf_nz g_11) (fun t ht hW => ⟨⟨y_2, (), rfl, e1, by rw [ht]; exact hP, va_K.moved hW.alike hK, hD⟩, hS.F ht⟩) hS.2.2 d_Mo_isAlike_74
  have hB_21 : ∀ (k : Nat), ∀ (y_1 : Int32) (y_2 : Int32) (y_3 : Int32) (S : MS) (H : Heap) (locs : List Loc) (ls : Array Slot), f_Mo_isAlike_21 K k y_1 y_2 y_3 S = some (r, S') → va_P (dC, dI) classes (wM M S) H → va_D A (wM M S) → va_S A s.heap H locs → lv_has ls 4 [(0, .ref M.o), (1, .int y_1), (2, .int y_2), (3, .int y_3)] → W p l e ({ frames := 1, cells := 0, slots := 0, locals := 20 }) s m ([.ref M.o, .int p0] : List Value).toArray below meth c H locs 0 0 Q (F0 m 21 ls []) := by
    intro k
    induction k with
    | zero => intro y_1 y_2 y_3 S H locs ls h; exact lf_no h
    | succ k hr_21 =>
      intro y_1 y_2 y_3 S H locs ls h hP hD hS hl
      rw [f_Mo_isAlike_21] at h
      refine lv_iload_n hx hb d_Mo_isAlike_21 rfl (lv_at hl 3 rfl) ?_
      refine lv_aload_n hx hb d_Mo_isAlike_22 rfl (lv_at hl 0 rfl) ?_
      refine va_get (D := (dC, dI)) (ci := 12) (v := .int S.v_size) (C := R_Mo) (T := F_Mo) (N := 66) hx hb hts (fun w h => u_Mq_Mo w (i_Mo w h)) hown hK hP 0 rfl rfl 39 (by decide) (hts _ (u_Mq_Mo _ k_Mo_46)) (fun _ h9 => h9) rfl d_Mo_isAlike_23 ?_
      refine lv_icmp_ge (tgt := 73) hx hb d_Mo_isAlike_26 (by decide) (fun c_3 => ?_) (fun c_3 => ?_)
      · have h := lf_t h c_3
        exact hB_73 y_2 S _ _ _ h hP hD hS (lv_sub hl [2] rfl)
      · have h := lf_f h c_3
        refine lv_iload_n hx hb d_Mo_isAlike_29 rfl (lv_at hl 2 rfl) ?_
        refine lv_if_eq (tgt := 73) hx hb d_Mo_isAlike_30 (by decide) (fun c_4 => ?_) (fun c_4 => ?_)
        · have h := lf_t h c_4
          exact hB_73 y_2 S _ _ _ h hP hD hS (lv_sub hl [2] rfl)
        · have h := lf_f h c_4
          refine lv_aload_n hx hb d_Mo_isAlike_33 rfl (lv_at hl 0 rfl) ?_
          refine va_get (D := (dC, dI)) (ci := 12) (v := .ref M.a_unit) (C := R_Mo) (T := F_Mo) (N := 66) hx hb hts (fun w h => u_Mq_Mo w (i_Mo w h)) hown hK hP 0 rfl rfl 32 (by decide) (hts _ (u_Mq_Mo _ k_Mo_39)) (fun _ h9 => h9) rfl d_Mo_isAlike_34 ?_
          refine lv_aload_n hx hb d_Mo_isAlike_37 rfl (lv_at hl 0 rfl) ?_
          refine va_get (D := (dC, dI)) (ci := 12) (v := .ref M.a_nameAt) (C := R_Mo) (T := F_Mo) (N := 66) hx hb hts (fun w h => u_Mq_Mo w (i_Mo w h)) hown hK hP 0 rfl rfl 30 (by decide) (hts _ (u_Mq_Mo _ k_Mo_37)) (fun _ h9 => h9) rfl d_Mo_isAlike_38 ?_
          refine lv_iload_n hx hb d_Mo_isAlike_41 rfl (lv_at hl 1 rfl) ?_
          obtain ⟨g_5, h⟩ := lf_gE h
          refine va_iald hx hb hK hP 12 11 rfl rfl g_5 d_Mo_isAlike_42 ?_
          refine lv_iload_n hx hb d_Mo_isAlike_43 rfl (lv_at hl 3 rfl) ?_
          refine lv_iadd hx hb d_Mo_isAlike_44 ?_
          obtain ⟨g_6, h⟩ := lf_gE h
          refine va_cald hx hb hK hP 14 13 rfl rfl g_6 d_Mo_isAlike_45 ?_
          obtain ⟨r_7, hc_7, h⟩ := lf_bE h
          have hFc := lx_free0 hS hA
          refine va_calli (va_runS (As := [.int (S.v_unit ((S.v_nameAt y_1.toNatClampNeg) + y_3).toNatClampNeg)]) (rest := []) ⟨hx, hb, hml, hown, hts⟩ (l_Mo_capital l dC dI  _ hc_7) (va_cwS 1 hts (gwS good_Mq (u_Mq_Mo _ k_Mo_196) (u_Mq_Mo _ k_Mo_197) (u_Mq_Mo _ k_Mo_0) (wcs (u_Mq_Mo _ k_Mo_198) (fun _ h => h))) rfl rfl rfl (by decide +kernel) ⟨Nat.le_of_ble_eq_true rfl, Nat.le_of_ble_eq_true rfl⟩) (ps_of (W := []) (tys := []) (hP.sub (ws' := []) [] rfl) (hK.sub [] rfl) (hD.sub (ws' := []) [] (by decide) rfl)) rfl rfl hl.1 rfl (lv_room (Nat.le_of_ble_eq_true rfl)) d_Mo_isAlike_46 ⟨by decide, by decide⟩) hS (fun q _ h => hFc q h) hFc (fun r_ u t H locs ht hvm hw hB hz1 hk1 hS => ?_)
          rw [hw]
          have hP := lx_stat (A := A) hP hk1
          refine lv_aload_n hx hb d_Mo_isAlike_49 rfl (lv_at hl 0 rfl) ?_
          refine va_get (D := (dC, dI)) (ci := 12) (v := .ref M.a_name) (C := R_Mo) (T := F_Mo) (N := 66) hx hb hts (fun w h => u_Mq_Mo w (i_Mo w h)) hown hK hP 0 rfl rfl 38 (by decide) (hts _ (u_Mq_Mo _ k_Mo_45)) (fun _ h9 => h9) rfl d_Mo_isAlike_50 ?_
          refine lv_iload_n hx hb d_Mo_isAlike_53 rfl (lv_at hl 3 rfl) ?_
          obtain ⟨g_8, h⟩ := lf_gE h
          refine va_cald hx hb hK hP 17 16 rfl rfl g_8 d_Mo_isAlike_54 ?_
          obtain ⟨r_9, hc_9, h⟩ := lf_bE h
          have hFc := lx_free0 hS hA
          refine va_calli (va_runS (As := [.int (S.v_name y_3.toNatClampNeg)]) (rest := [.int r_7]) ⟨hx, hb, hml, hown, hts⟩ (l_Mo_capital l dC dI  _ hc_9) (va_cwS 1 hts (gwS good_Mq (u_Mq_Mo _ k_Mo_196) (u_Mq_Mo _ k_Mo_197) (u_Mq_Mo _ k_Mo_0) (wcs (u_Mq_Mo _ k_Mo_198) (fun _ h => h))) rfl rfl rfl (by decide +kernel) ⟨Nat.le_of_ble_eq_true rfl, Nat.le_of_ble_eq_true rfl⟩) (ps_of (W := []) (tys := []) (hP.sub (ws' := []) [] rfl) (hK.sub [] rfl) (hD.sub (ws' := []) [] (by decide) rfl)) rfl rfl hl.1 rfl (lv_room (Nat.le_of_ble_eq_true rfl)) d_Mo_isAlike_55 ⟨by decide, by decide⟩) hS (fun q _ h => hFc q h) hFc (fun r_ u t H locs ht hvm hw hB hz1 hk1 hS => ?_)
          rw [hw]
          have hP := lx_stat (A := A) hP hk1
          refine lv_icmp_ne (tgt := 65) hx hb d_Mo_isAlike_58 (by decide) (fun c_10 => ?_) (fun c_10 => ?_)
          · have h := lf_f h c_10
            refine lv_iconst (v := 0) hx hb d_Mo_isAlike_65 (by decide) ?_
            exact hB_66 _ hr_21 y_1 y_3 0 S _ _ _ h hP hD hS (lv_sub hl [0, 1, 3] rfl)
          · have h := lf_t h c_10
            refine lv_iconst (v := 1) hx hb d_Mo_isAlike_61 (by decide) ?_
            refine lv_goto (tgt := 66) hx hb d_Mo_isAlike_62 (by decide) ?_
            exact hB_66 _ hr_21 y_1 y_3 1 S _ _ _ h hP hD hS (lv_sub hl [0, 1, 3] rfl)
  have hB_18 : ∀ (y_1 : Int32) (z_0 : Int32) (S : MS) (H : Heap) (locs : List Loc) (ls : Array Slot), f_Mo_isAlike_18 K y_1 z_0 S = some (r, S') → va_P (dC, dI) classes (wM M S) H → va_D A (wM M S) → va_S A s.heap H locs → lv_has ls 4 [(0, .ref M.o), (1, .int y_1)] → W p l e ({ frames := 1, cells := 0, slots := 0, locals := 20 }) s m ([.ref M.o, .int p0] : List Value).toArray below meth c H locs 0 0 Q (F0 m 18 ls [.int z_0]) := by
    intro y_1 z_0 S H locs ls h hP hD hS hl
    rw [f_Mo_isAlike_18] at h
    refine lv_istore_n (lv' := [(2, .int z_0), (0, .ref M.o), (1, .int y_1)]) hx hb d_Mo_isAlike_18 rfl hl (by decide) rfl (fun ls hl => ?_)
    refine lv_iconst (v := 0) hx hb d_Mo_isAlike_19 (by decide) ?_
    refine lv_istore_n (lv' := [(3, .int 0), (2, .int z_0), (0, .ref M.o), (1, .int y_1)]) hx hb d_Mo_isAlike_20 rfl hl (by decide) rfl (fun ls hl => ?_)
    exact hB_21 K y_1 z_0 0 S _ _ _ h hP hD hS (lv_sub hl [2, 3, 1, 0] rfl)
  rw [f_Mo_isAlike] at h
  refine lv_aload_n hx hb d_Mo_isAlike_0 rfl (lv_at hl 0 rfl) ?_
  refine va_get (D := (dC, dI)) (ci := 12) (v := .ref M.a_nameSize) (C := R_Mo) (T := F_Mo) (N := 66) hx hb hts (fun w h => u_Mq_Mo w (i_Mo w h)) hown hK hP 0 rfl rfl 31 (by decide) (hts _ (u_Mq_Mo _ k_Mo_38)) (fun _ h9 => h9) rfl d_Mo_isAlike_1 ?_
  refine lv_iload_n hx hb d_Mo_isAlike_4 rfl (lv_at hl 1 rfl) ?_
  obtain ⟨g_1, h⟩ := lf_gE h
  refine va_iald hx hb hK hP 13 12 rfl rfl g_1 d_Mo_isAlike_5 ?_
  refine lv_aload_n hx hb d_Mo_isAlike_6 rfl (lv_at hl 0 rfl) ?_
  refine va_get (D := (dC, dI)) (ci := 12) (v := .int S.v_size) (C := R_Mo) (T := F_Mo) (N := 66) hx hb hts (fun w h => u_Mq_Mo w (i_Mo w h)) hown hK hP 0 rfl rfl 39 (by decide) (hts _ (u_Mq_Mo _ k_Mo_46)) (fun _ h9 => h9) rfl d_Mo_isAlike_7 ?_
  refine lv_icmp_ne (tgt := 17) hx hb d_Mo_isAlike_10 (by decide) (fun c_2 => ?_) (fun c_2 => ?_)
  · have h := lf_f h c_2
    refine lv_iconst (v := 0) hx hb d_Mo_isAlike_17 (by decide) ?_
    exact hB_18 p0 0 S _ _ _ h hP hD hS (lv_sub hl [0, 1] rfl)
  · have h := lf_t h c_2
    refine lv_iconst (v := 1) hx hb d_Mo_isAlike_13 (by decide) ?_
    refine lv_goto (tgt := 18) hx hb d_Mo_isAlike_14 (by decide) ?_
    exact hB_18 p0 1 S _ _ _ h hP hD hS (lv_sub hl [0, 1] rfl)
set_option maxHeartbeats 4000000 in
set_option maxRecDepth 100000 in
theorem l_Mo_isTaken (l : Launch) (dC : Nat → ClassId) (dI : Nat → Nat → Nat) {K : Nat} {M : MA} {E : (Nat → Prop) → State → Prop} (X : lx_X l dC dI K M E) (sz : Nat) {S S' : MS} {p0 : Int32} {r : Int32} (h : f_Mo_isTaken K S p0 = some (r, S')) : Met l y_Mo_isTaken (.code y_Mo_isTaken b_Mo_isTaken 4 (some .boolean) :: V_Mq) ({ frames := 2, cells := 0, slots := 0, locals := 43 }) (va_Pc [.ref M.o, .int p0] (fun U => U.heap.size = sz ∧ at_ (dC, dI) (fun _ => True) (wM M S) (tM M) U ∧ E (va_A (wM M S) sz) U)) (va_Qi (fun (r_ : Int32) (u : Unit) => r_ = r) (fun (u : Unit) t => at_ (dC, dI) (va_A (wM M S) sz) (wM M S') (tM M) t) (va_A (wM M S) sz)) 0 0 (va_A (wM M S) sz) := by
  refine Met.ofW (cc := b_Mo_isTaken) (maxL := 4) (ret := (some .boolean)) (by decide) rfl ?_
  intro p e s m args below meth c s₁ B hml hv
  obtain ⟨rfl, hsz, ⟨hP, hK, hD0⟩, hE⟩ := hv
  have hx := B.exec
  have hb := B.bytes
  have hr := B.returns
  have hts0 := atoms_spec (ws := .code y_Mo_isTaken b_Mo_isTaken 4 (some .boolean) :: V_Mq) B.pre
  have hts : ∀ w ∈ V_Mq, w.before ([.ref M.o, .int p0] : List Value).toArray s = true := fun w h => hts0 w (List.mem_cons_of_mem _ h)
  have hown : s.vm.findClass R_Mo = some m.cls := findClass_of_methodNamed B.named
  subst hsz
  have hD := hD0.self (sz := s.heap.size)
  generalize hAe : va_A (wM M S) s.heap.size = A at hD hE ⊢
  have hA : ∀ q : Nat, s.heap.size ≤ q → A q := fun q h => by rw [← hAe]; exact Or.inr h
  have hS : va_S A s.heap s.heap [] := va_S.rf
  have hP : va_P (dC, dI) classes (wM M S) s.heap := hP
  have hK : va_K (dC, dI) classes (tM M) s := hK
  have hEw : ∀ (H : Heap) (locs : List Loc), va_S A s.heap H locs → ∀ U : State, U.heap = H → s.WarmedH U.vm → E A U := fun H locs hS U hU hW => X.kept A s U H locs hE hS hU hW
  have hl := lv_entry ([.ref M.o, .int p0]) (n := 4) (Nat.le_of_ble_eq_true rfl)
  rw [lg_entry_eq]
  generalize (lg_sl ([.ref M.o, .int p0]) ++ List.replicate (4 - (lg_sl ([.ref M.o, .int p0])).length) Slot.unset).toArray = ls at hl ⊢
  have hl : lv_has ls 4 [(0, .ref M.o), (1, .int p0)] := hl
  refine qabs (fun Q hQ => ?_)
  have hB_42 : ∀ (y_2 : Int32) (S : MS) (H : Heap) (locs : List Loc) (ls : Array Slot), f_Mo_isTaken_42 K y_2 S = some (r, S') → va_P (dC, dI) classes (wM M S) H → va_D A (wM M S) → va_S A s.heap H locs → lv_has ls 4 [(2, .int y_2)] → W p l e ({ frames := 2, cells := 0, slots := 0, locals := 43 }) s m ([.ref M.o, .int p0] : List Value).toArray below meth c H locs 0 0 Q (F0 m 42 ls []) := by
    intro y_2 S H locs ls h hP hD hS hl
    rw [f_Mo_isTaken_42] at h
    refine lv_iload_n hx hb d_Mo_isTaken_42 rfl (lv_at hl 0 rfl) ?_
    obtain ⟨g_9, h⟩ := lf_gE h
    rw [hQ]
    have e1 : y_2 = r := congrArg Prod.fst (Option.some.inj h)
    have e2 : S = S' := congrArg Prod.snd (Option.some.inj h)
    have hP := lx_newP e2.symm hP
    have hD := lx_newD e2.symm hD
    exact W.zret (v := y_2) hx hb hr (lf_nz g_9) (fun t ht hW => ⟨⟨y_2, (), rfl, e1, by rw [ht]; exact hP, va_K.moved hW.alike hK, hD⟩, hS.F ht⟩) hS.2.2 d_Mo_isTaken_43
  have hB_9 : ∀ (k : Nat), ∀ (y_1 : Int32) (y_2 : Int32) (y_3 : Int32) (S : MS) (H : Heap) (locs : List Loc) (ls : Array Slot), f_Mo_isTaken_9 K k y_1 y_2 y_3 S = some (r, S') → va_P (dC, dI) classes (wM M S) H → va_D A (wM M S) → va_S A s.heap H locs → lv_has ls 4 [(0, .ref M.o), (1, .int y_1), (2, .int y_2), (3, .int y_3)] → W p l e ({ frames := 2, cells := 0, slots := 0, locals := 43 }) s m ([.ref M.o, .int p0] : List Value).toArray below meth c H locs 0 0 Q (F0 m 9 ls []) := by
    intro k
    induction k with
    | zero => intro y_1 y_2 y_3 S H locs ls h; exact lf_no h
    | succ k hr_9 =>
      intro y_1 y_2 y_3 S H locs ls h hP hD hS hl
      rw [f_Mo_isTaken_9] at h
      refine lv_iload_n hx hb d_Mo_isTaken_9 rfl (lv_at hl 3 rfl) ?_
      refine lv_aload_n hx hb d_Mo_isTaken_10 rfl (lv_at hl 0 rfl) ?_
      refine va_get (D := (dC, dI)) (ci := 12) (v := .ref M.a_firstKid) (C := R_Mo) (T := F_Mo) (N := 66) hx hb hts (fun w h => u_Mq_Mo w (i_Mo w h)) hown hK hP 0 rfl rfl 29 (by decide) (hts _ (u_Mq_Mo _ k_Mo_36)) (fun _ h9 => h9) rfl d_Mo_isTaken_11 ?_
      refine lv_iload_n hx hb d_Mo_isTaken_14 rfl (lv_at hl 1 rfl) ?_
      obtain ⟨g_3, h⟩ := lf_gE h
      refine va_iald hx hb hK hP 11 10 rfl rfl g_3 d_Mo_isTaken_15 ?_
      refine lv_aload_n hx hb d_Mo_isTaken_16 rfl (lv_at hl 0 rfl) ?_
      refine va_get (D := (dC, dI)) (ci := 12) (v := .ref M.a_kids) (C := R_Mo) (T := F_Mo) (N := 66) hx hb hts (fun w h => u_Mq_Mo w (i_Mo w h)) hown hK hP 0 rfl rfl 28 (by decide) (hts _ (u_Mq_Mo _ k_Mo_35)) (fun _ h9 => h9) rfl d_Mo_isTaken_17 ?_
      refine lv_iload_n hx hb d_Mo_isTaken_20 rfl (lv_at hl 1 rfl) ?_
      obtain ⟨g_4, h⟩ := lf_gE h
      refine va_iald hx hb hK hP 10 9 rfl rfl g_4 d_Mo_isTaken_21 ?_
      refine lv_iadd hx hb d_Mo_isTaken_22 ?_
      refine lv_icmp_ge (tgt := 42) hx hb d_Mo_isTaken_23 (by decide) (fun c_5 => ?_) (fun c_5 => ?_)
      · have h := lf_t h c_5
        exact hB_42 y_2 S _ _ _ h hP hD hS (lv_sub hl [2] rfl)
      · have h := lf_f h c_5
        refine lv_iload_n hx hb d_Mo_isTaken_26 rfl (lv_at hl 2 rfl) ?_
        refine lv_if_ne (tgt := 42) hx hb d_Mo_isTaken_27 (by decide) (fun c_6 => ?_) (fun c_6 => ?_)
        · have h := lf_f h c_6
          exact hB_42 y_2 S _ _ _ h hP hD hS (lv_sub hl [2] rfl)
        · have h := lf_t h c_6
          refine lv_aload_n hx hb d_Mo_isTaken_30 rfl (lv_at hl 0 rfl) ?_
          refine lv_iload_n hx hb d_Mo_isTaken_31 rfl (lv_at hl 3 rfl) ?_
          obtain ⟨r_7, S_7, hc_7, h⟩ := lf_cE h
          have hFc := lx_free hD hS hA
          refine va_calli (va_runV (As := [.int y_3]) (rest := []) ⟨hx, hb, hml, hown, hts⟩ (l_Mo_isAlike l dC dI X _ hc_7) (cwV 1 hts (gwV good_Mq (u_Mq_Mo _ k_Mo_193) (u_Mq_Mo _ k_Mo_194) (u_Mq_Mo _ k_Mo_503) (u_Mq_Mo _ k_Mo_0) (wcs (u_Mq_Mo _ k_Mo_195) (fun _ h => h))) rfl rfl rfl (by decide +kernel) ⟨Nat.le_of_ble_eq_true rfl, Nat.le_of_ble_eq_true rfl⟩) (pv_ofE (X.same _) (fun U z1 z2 => X.mono _ _ U hFc (hEw _ _ hS U z1 z2)) hP hK hD (va_recv hK hP (ci := 12) (q0 := 0) rfl rfl)) rfl rfl hl.1 rfl (lv_room (Nat.le_of_ble_eq_true rfl)) d_Mo_isTaken_32 ⟨by decide, by decide⟩) hS (fun q _ h => hFc q h) hFc (fun r_ u t H locs ht hvm hw hB hz1 hk1 hS => ?_)
          rw [hw]
          obtain ⟨hP, -, hD⟩ := hB
          rw [ht] at hP
          have hD := lx_dj hD hFc
          refine lv_istore_n (lv' := [(2, .int r_7), (0, .ref M.o), (1, .int y_1), (3, .int y_3)]) hx hb d_Mo_isTaken_35 rfl hl (by decide) rfl (fun ls hl => ?_)
          obtain ⟨x_8, ex_8, h⟩ := lf_lX h
          refine lv_iinc (v := x_8) (lv' := [(3, .int x_8), (2, .int r_7), (0, .ref M.o), (1, .int y_1)]) hx hb d_Mo_isTaken_36 hl (k := 3) rfl (by rw [ex_8]; rfl) (by decide) rfl (fun ls hl => ?_)
          refine lv_goto (tgt := 9) hx hb d_Mo_isTaken_39 (by decide) ?_
          exact hr_9 y_1 r_7 x_8 S_7 _ _ _ h hP hD hS (lv_sub hl [2, 3, 1, 0] rfl)
  rw [f_Mo_isTaken] at h
  refine lv_iconst (v := 0) hx hb d_Mo_isTaken_0 (by decide) ?_
  refine lv_istore_n (lv' := [(2, .int 0), (0, .ref M.o), (1, .int p0)]) hx hb d_Mo_isTaken_1 rfl hl (by decide) rfl (fun ls hl => ?_)
  refine lv_aload_n hx hb d_Mo_isTaken_2 rfl (lv_at hl 1 rfl) ?_
  refine va_get (D := (dC, dI)) (ci := 12) (v := .ref M.a_firstKid) (C := R_Mo) (T := F_Mo) (N := 66) hx hb hts (fun w h => u_Mq_Mo w (i_Mo w h)) hown hK hP 0 rfl rfl 29 (by decide) (hts _ (u_Mq_Mo _ k_Mo_36)) (fun _ h9 => h9) rfl d_Mo_isTaken_3 ?_
  refine lv_iload_n hx hb d_Mo_isTaken_6 rfl (lv_at hl 2 rfl) ?_
  obtain ⟨g_1, h⟩ := lf_gE h
  refine va_iald hx hb hK hP 11 10 rfl rfl g_1 d_Mo_isTaken_7 ?_
  refine lv_topi (fun x_2 ex_2 => ?_)
  have h := lf_lE h ex_2
  refine lv_istore_n (lv' := [(3, .int x_2), (2, .int 0), (0, .ref M.o), (1, .int p0)]) hx hb d_Mo_isTaken_8 rfl hl (by decide) rfl (fun ls hl => ?_)
  exact hB_9 K p0 0 x_2 S _ _ _ h hP hD hS (lv_sub hl [2, 3, 1, 0] rfl)
set_option maxHeartbeats 4000000 in
set_option maxRecDepth 100000 in
theorem l_Mo_adm (l : Launch) (dC : Nat → ClassId) (dI : Nat → Nat → Nat) {K : Nat} {M : MA} {E : (Nat → Prop) → State → Prop} (X : lx_X l dC dI K M E) (sz : Nat) {S S' : MS} {p0 : Int32} {p1 : Int32} {p2 : Int32} {r : Int32} (h : f_Mo_adm K S p0 p1 p2 = some (r, S')) : Met l y_Mo_adm (.code y_Mo_adm b_Mo_adm 9 (some .int) :: V_Mq) ({ frames := 9, cells := 0, slots := 0, locals := 267 }) (va_Pc [.ref M.o, .int p0, .int p1, .int p2] (fun U => U.heap.size = sz ∧ at_ (dC, dI) (fun _ => True) (wM M S) (tM M) U ∧ E (va_A (wM M S) sz) U)) (va_Qi (fun (r_ : Int32) (u : Unit) => r_ = r) (fun (u : Unit) t => at_ (dC, dI) (va_A (wM M S) sz) (wM M S') (tM M) t) (va_A (wM M S) sz)) 0 0 (va_A (wM M S) sz) := by
  refine Met.ofW (cc := b_Mo_adm) (maxL := 9) (ret := (some .int)) (by decide) rfl ?_
  intro p e s m args below meth c s₁ B hml hv
  obtain ⟨rfl, hsz, ⟨hP, hK, hD0⟩, hE⟩ := hv
  have hx := B.exec
  have hb := B.bytes
  have hr := B.returns
  have hts0 := atoms_spec (ws := .code y_Mo_adm b_Mo_adm 9 (some .int) :: V_Mq) B.pre
  have hts : ∀ w ∈ V_Mq, w.before ([.ref M.o, .int p0, .int p1, .int p2] : List Value).toArray s = true := fun w h => hts0 w (List.mem_cons_of_mem _ h)
  have hown : s.vm.findClass R_Mo = some m.cls := findClass_of_methodNamed B.named
  subst hsz
  have hD := hD0.self (sz := s.heap.size)
  generalize hAe : va_A (wM M S) s.heap.size = A at hD hE ⊢
  have hA : ∀ q : Nat, s.heap.size ≤ q → A q := fun q h => by rw [← hAe]; exact Or.inr h
  have hS : va_S A s.heap s.heap [] := va_S.rf
  have hP : va_P (dC, dI) classes (wM M S) s.heap := hP
  have hK : va_K (dC, dI) classes (tM M) s := hK
  have hEw : ∀ (H : Heap) (locs : List Loc), va_S A s.heap H locs → ∀ U : State, U.heap = H → s.WarmedH U.vm → E A U := fun H locs hS U hU hW => X.kept A s U H locs hE hS hU hW
  have hl := lv_entry ([.ref M.o, .int p0, .int p1, .int p2]) (n := 9) (Nat.le_of_ble_eq_true rfl)
  rw [lg_entry_eq]
  generalize (lg_sl ([.ref M.o, .int p0, .int p1, .int p2]) ++ List.replicate (9 - (lg_sl ([.ref M.o, .int p0, .int p1, .int p2])).length) Slot.unset).toArray = ls at hl ⊢
  have hl : lv_has ls 9 [(0, .ref M.o), (1, .int p0), (2, .int p1), (3, .int p2)] := hl
  refine qabs (fun Q hQ => ?_)
  have hB_25 : ∀ (S : MS) (H : Heap) (locs : List Loc) (ls : Array Slot), f_Mo_adm_25 K S = some (r, S') → va_P (dC, dI) classes (wM M S) H → va_D A (wM M S) → va_S A s.heap H locs → lv_has ls 9 [] → W p l e ({ frames := 9, cells := 0, slots := 0, locals := 267 }) s m ([.ref M.o, .int p0, .int p1, .int p2] : List Value).toArray below meth c H locs 0 0 Q (F0 m 25 ls []) := by
    intro S H locs ls h hP hD hS hl
    rw [f_Mo_adm_25] at h
    refine lv_iconst (v := 4) hx hb d_Mo_adm_25 (by decide) ?_
    rw [hQ]
    have e1 : (4 : Int32) = r := congrArg Prod.fst (Option.some.inj h)
    have e2 : S = S' := congrArg Prod.snd (Option.some.inj h)
    have hP := lx_newP e2.symm hP
    have hD := lx_newD e2.symm hD
    exact W.iret (v := 4) hx hb hr (fun t ht hW => ⟨⟨4, (), rfl, e1, by rw [ht]; exact hP, va_K.moved hW.alike hK, hD⟩, hS.F ht⟩) hS.2.2 d_Mo_adm_26
  have hB_94 : ∀ (y_1 : Int32) (z_0 : Int32) (S : MS) (H : Heap) (locs : List Loc) (ls : Array Slot), f_Mo_adm_94 K y_1 z_0 S = some (r, S') → va_P (dC, dI) classes (wM M S) H → va_D A (wM M S) → va_S A s.heap H locs → lv_has ls 9 [(0, .ref M.o), (1, .int y_1)] → W p l e ({ frames := 9, cells := 0, slots := 0, locals := 267 }) s m ([.ref M.o, .int p0, .int p1, .int p2] : List Value).toArray below meth c H locs 0 0 Q (F0 m 94 ls [.int z_0]) := by
    intro y_1 z_0 S H locs ls h hP hD hS hl
    rw [f_Mo_adm_94] at h
    refine lv_istore (lv' := [(5, .int z_0), (0, .ref M.o), (1, .int y_1)]) hx hb d_Mo_adm_94 hl (by decide) rfl (fun ls hl => ?_)
    refine lv_aload_n hx hb d_Mo_adm_96 rfl (lv_at hl 1 rfl) ?_
    refine lv_iload_n hx hb d_Mo_adm_97 rfl (lv_at hl 2 rfl) ?_
    refine va_put (D := (dC, dI)) (ci := 12) (v := .int y_1) (ty := .int) (C := R_Mo) (T := F_Mo) (N := 66) hx hb hts (fun w h => u_Mq_Mo w (i_Mo w h)) t_Mo t_Mo_ok n_Mo hown hK hP hD hS 0 rfl rfl 37 (by decide) (hts _ (u_Mq_Mo _ k_Mo_44)) (fun _ h9 => h9) rfl (by decide +kernel) rfl rfl (Nat.le_of_ble_eq_true rfl) d_Mo_adm_98 (fun H locs hP hD hS => ?_)
    obtain ⟨S_21, eS_21, h⟩ := lf_lX h
    have hP := lx_newP eS_21 hP
    have hD := lx_newD eS_21 hD
    refine lv_iload hx hb d_Mo_adm_101 (lv_at hl 0 rfl) ?_
    refine lv_if_eq (tgt := 110) hx hb d_Mo_adm_103 (by decide) (fun c_22 => ?_) (fun c_22 => ?_)
    · have h := lf_t h c_22
      refine lv_iconst (v := 0) hx hb d_Mo_adm_110 (by decide) ?_
      rw [hQ]
      have e1 : (0 : Int32) = r := congrArg Prod.fst (Option.some.inj h)
      have e2 : S_21 = S' := congrArg Prod.snd (Option.some.inj h)
      have hP := lx_newP e2.symm hP
      have hD := lx_newD e2.symm hD
      exact W.iret (v := 0) hx hb hr (fun t ht hW => ⟨⟨0, (), rfl, e1, by rw [ht]; exact hP, va_K.moved hW.alike hK, hD⟩, hS.F ht⟩) hS.2.2 d_Mo_adm_111
    · have h := lf_f h c_22
      refine lv_iconst (v := 4) hx hb d_Mo_adm_106 (by decide) ?_
      refine lv_goto (tgt := 111) hx hb d_Mo_adm_107 (by decide) ?_
      rw [hQ]
      have e1 : (4 : Int32) = r := congrArg Prod.fst (Option.some.inj h)
      have e2 : S_21 = S' := congrArg Prod.snd (Option.some.inj h)
      have hP := lx_newP e2.symm hP
      have hD := lx_newD e2.symm hD
      exact W.iret (v := 4) hx hb hr (fun t ht hW => ⟨⟨4, (), rfl, e1, by rw [ht]; exact hP, va_K.moved hW.alike hK, hD⟩, hS.F ht⟩) hS.2.2 d_Mo_adm_111
  have hB_89 : ∀ (y_1 : Int32) (S : MS) (H : Heap) (locs : List Loc) (ls : Array Slot), f_Mo_adm_89 K y_1 S = some (r, S') → va_P (dC, dI) classes (wM M S) H → va_D A (wM M S) → va_S A s.heap H locs → lv_has ls 9 [(0, .ref M.o), (1, .int y_1)] → W p l e ({ frames := 9, cells := 0, slots := 0, locals := 267 }) s m ([.ref M.o, .int p0, .int p1, .int p2] : List Value).toArray below meth c H locs 0 0 Q (F0 m 89 ls []) := by
    intro y_1 S H locs ls h hP hD hS hl
    rw [f_Mo_adm_89] at h
    refine lv_iconst (v := 1) hx hb d_Mo_adm_89 (by decide) ?_
    refine lv_goto (tgt := 94) hx hb d_Mo_adm_90 (by decide) ?_
    exact hB_94 y_1 1 S _ _ _ h hP hD hS (lv_sub hl [0, 1] rfl)
  have hB_282 : ∀ (rec_225 : Int32 → Int32 → Int32 → Int32 → Int32 → MS → Option (Int32 × MS)) (hr_225 : ∀ (y_1 : Int32) (y_2 : Int32) (y_3 : Int32) (y_4 : Int32) (y_6 : Int32) (S : MS) (H : Heap) (locs : List Loc) (ls : Array Slot), rec_225 y_1 y_2 y_3 y_4 y_6 S = some (r, S') → va_P (dC, dI) classes (wM M S) H → va_D A (wM M S) → va_S A s.heap H locs → lv_has ls 9 [(0, .ref M.o), (1, .int y_1), (2, .int y_2), (3, .int y_3), (4, .int y_4), (6, .int y_6)] → W p l e ({ frames := 9, cells := 0, slots := 0, locals := 267 }) s m ([.ref M.o, .int p0, .int p1, .int p2] : List Value).toArray below meth c H locs 0 0 Q (F0 m 225 ls [])) (rec_240 : Int32 → Int32 → Int32 → Int32 → Int32 → Int32 → Int32 → MS → Option (Int32 × MS)) (hr_240 : ∀ (y_1 : Int32) (y_2 : Int32) (y_3 : Int32) (y_4 : Int32) (y_6 : Int32) (y_7 : Int32) (y_8 : Int32) (S : MS) (H : Heap) (locs : List Loc) (ls : Array Slot), rec_240 y_1 y_2 y_3 y_4 y_6 y_7 y_8 S = some (r, S') → va_P (dC, dI) classes (wM M S) H → va_D A (wM M S) → va_S A s.heap H locs → lv_has ls 9 [(0, .ref M.o), (1, .int y_1), (2, .int y_2), (3, .int y_3), (4, .int y_4), (6, .int y_6), (7, .int y_7), (8, .int y_8)] → W p l e ({ frames := 9, cells := 0, slots := 0, locals := 267 }) s m ([.ref M.o, .int p0, .int p1, .int p2] : List Value).toArray below meth c H locs 0 0 Q (F0 m 240 ls [])), ∀ (y_1 : Int32) (y_2 : Int32) (y_3 : Int32) (y_4 : Int32) (y_6 : Int32) (y_8 : Int32) (z_0 : Int32) (S : MS) (H : Heap) (locs : List Loc) (ls : Array Slot), f_Mo_adm_282 K rec_225 rec_240 y_1 y_2 y_3 y_4 y_6 y_8 z_0 S = some (r, S') → va_P (dC, dI) classes (wM M S) H → va_D A (wM M S) → va_S A s.heap H locs → lv_has ls 9 [(0, .ref M.o), (1, .int y_1), (2, .int y_2), (3, .int y_3), (4, .int y_4), (6, .int y_6), (8, .int y_8)] → W p l e ({ frames := 9, cells := 0, slots := 0, locals := 267 }) s m ([.ref M.o, .int p0, .int p1, .int p2] : List Value).toArray below meth c H locs 0 0 Q (F0 m 282 ls [.int z_0]) := by
    intro rec_225 hr_225 rec_240 hr_240 y_1 y_2 y_3 y_4 y_6 y_8 z_0 S H locs ls h hP hD hS hl
    rw [f_Mo_adm_282] at h
    refine lv_istore (lv' := [(7, .int z_0), (0, .ref M.o), (1, .int y_1), (2, .int y_2), (3, .int y_3), (4, .int y_4), (6, .int y_6), (8, .int y_8)]) hx hb d_Mo_adm_282 hl (by decide) rfl (fun ls hl => ?_)
    obtain ⟨x_79, ex_79, h⟩ := lf_lX h
    refine lv_iinc (v := x_79) (lv' := [(8, .int x_79), (7, .int z_0), (0, .ref M.o), (1, .int y_1), (2, .int y_2), (3, .int y_3), (4, .int y_4), (6, .int y_6)]) hx hb d_Mo_adm_284 hl (k := 7) rfl (by rw [ex_79]; rfl) (by decide) rfl (fun ls hl => ?_)
    refine lv_goto (tgt := 240) hx hb d_Mo_adm_287 (by decide) ?_
    exact hr_240 y_1 y_2 y_3 y_4 y_6 z_0 x_79 S _ _ _ h hP hD hS (lv_sub hl [2, 3, 4, 5, 6, 7, 1, 0] rfl)
  have hB_281 : ∀ (rec_225 : Int32 → Int32 → Int32 → Int32 → Int32 → MS → Option (Int32 × MS)) (hr_225 : ∀ (y_1 : Int32) (y_2 : Int32) (y_3 : Int32) (y_4 : Int32) (y_6 : Int32) (S : MS) (H : Heap) (locs : List Loc) (ls : Array Slot), rec_225 y_1 y_2 y_3 y_4 y_6 S = some (r, S') → va_P (dC, dI) classes (wM M S) H → va_D A (wM M S) → va_S A s.heap H locs → lv_has ls 9 [(0, .ref M.o), (1, .int y_1), (2, .int y_2), (3, .int y_3), (4, .int y_4), (6, .int y_6)] → W p l e ({ frames := 9, cells := 0, slots := 0, locals := 267 }) s m ([.ref M.o, .int p0, .int p1, .int p2] : List Value).toArray below meth c H locs 0 0 Q (F0 m 225 ls [])) (rec_240 : Int32 → Int32 → Int32 → Int32 → Int32 → Int32 → Int32 → MS → Option (Int32 × MS)) (hr_240 : ∀ (y_1 : Int32) (y_2 : Int32) (y_3 : Int32) (y_4 : Int32) (y_6 : Int32) (y_7 : Int32) (y_8 : Int32) (S : MS) (H : Heap) (locs : List Loc) (ls : Array Slot), rec_240 y_1 y_2 y_3 y_4 y_6 y_7 y_8 S = some (r, S') → va_P (dC, dI) classes (wM M S) H → va_D A (wM M S) → va_S A s.heap H locs → lv_has ls 9 [(0, .ref M.o), (1, .int y_1), (2, .int y_2), (3, .int y_3), (4, .int y_4), (6, .int y_6), (7, .int y_7), (8, .int y_8)] → W p l e ({ frames := 9, cells := 0, slots := 0, locals := 267 }) s m ([.ref M.o, .int p0, .int p1, .int p2] : List Value).toArray below meth c H locs 0 0 Q (F0 m 240 ls [])), ∀ (y_1 : Int32) (y_2 : Int32) (y_3 : Int32) (y_4 : Int32) (y_6 : Int32) (y_8 : Int32) (S : MS) (H : Heap) (locs : List Loc) (ls : Array Slot), f_Mo_adm_281 K rec_225 rec_240 y_1 y_2 y_3 y_4 y_6 y_8 S = some (r, S') → va_P (dC, dI) classes (wM M S) H → va_D A (wM M S) → va_S A s.heap H locs → lv_has ls 9 [(0, .ref M.o), (1, .int y_1), (2, .int y_2), (3, .int y_3), (4, .int y_4), (6, .int y_6), (8, .int y_8)] → W p l e ({ frames := 9, cells := 0, slots := 0, locals := 267 }) s m ([.ref M.o, .int p0, .int p1, .int p2] : List Value).toArray below meth c H locs 0 0 Q (F0 m 281 ls []) := by
    intro rec_225 hr_225 rec_240 hr_240 y_1 y_2 y_3 y_4 y_6 y_8 S H locs ls h hP hD hS hl
    rw [f_Mo_adm_281] at h
    refine lv_iconst (v := 0) hx hb d_Mo_adm_281 (by decide) ?_
    exact hB_282 _ hr_225 _ hr_240 y_1 y_2 y_3 y_4 y_6 y_8 0 S _ _ _ h hP hD hS (lv_sub hl [0, 1, 2, 3, 4, 5, 6] rfl)
  have hB_240 : ∀ (rec_225 : Int32 → Int32 → Int32 → Int32 → Int32 → MS → Option (Int32 × MS)) (hr_225 : ∀ (y_1 : Int32) (y_2 : Int32) (y_3 : Int32) (y_4 : Int32) (y_6 : Int32) (S : MS) (H : Heap) (locs : List Loc) (ls : Array Slot), rec_225 y_1 y_2 y_3 y_4 y_6 S = some (r, S') → va_P (dC, dI) classes (wM M S) H → va_D A (wM M S) → va_S A s.heap H locs → lv_has ls 9 [(0, .ref M.o), (1, .int y_1), (2, .int y_2), (3, .int y_3), (4, .int y_4), (6, .int y_6)] → W p l e ({ frames := 9, cells := 0, slots := 0, locals := 267 }) s m ([.ref M.o, .int p0, .int p1, .int p2] : List Value).toArray below meth c H locs 0 0 Q (F0 m 225 ls [])) (k : Nat), ∀ (y_1 : Int32) (y_2 : Int32) (y_3 : Int32) (y_4 : Int32) (y_6 : Int32) (y_7 : Int32) (y_8 : Int32) (S : MS) (H : Heap) (locs : List Loc) (ls : Array Slot), f_Mo_adm_240 K rec_225 k y_1 y_2 y_3 y_4 y_6 y_7 y_8 S = some (r, S') → va_P (dC, dI) classes (wM M S) H → va_D A (wM M S) → va_S A s.heap H locs → lv_has ls 9 [(0, .ref M.o), (1, .int y_1), (2, .int y_2), (3, .int y_3), (4, .int y_4), (6, .int y_6), (7, .int y_7), (8, .int y_8)] → W p l e ({ frames := 9, cells := 0, slots := 0, locals := 267 }) s m ([.ref M.o, .int p0, .int p1, .int p2] : List Value).toArray below meth c H locs 0 0 Q (F0 m 240 ls []) := by
    intro rec_225 hr_225 k
    induction k with
    | zero => intro y_1 y_2 y_3 y_4 y_6 y_7 y_8 S H locs ls h; exact lf_no h
    | succ k hr_240 =>
      intro y_1 y_2 y_3 y_4 y_6 y_7 y_8 S H locs ls h hP hD hS hl
      rw [f_Mo_adm_240] at h
      refine lv_iload hx hb d_Mo_adm_240 (lv_at hl 7 rfl) ?_
      refine lv_bipush (v := 11) hx hb d_Mo_adm_242 (by decide) ?_
      refine lv_icmp_ge (tgt := 290) hx hb d_Mo_adm_244 (by decide) (fun c_71 => ?_) (fun c_71 => ?_)
      · have h := lf_t h c_71
        refine lv_iload hx hb d_Mo_adm_290 (lv_at hl 6 rfl) ?_
        refine lv_if_eq (tgt := 297) hx hb d_Mo_adm_292 (by decide) (fun c_72 => ?_) (fun c_72 => ?_)
        · have h := lf_t h c_72
          obtain ⟨x_73, ex_73, h⟩ := lf_lX h
          refine lv_iinc (v := x_73) (lv' := [(6, .int x_73), (0, .ref M.o), (1, .int y_1), (2, .int y_2), (3, .int y_3), (4, .int y_4), (7, .int y_7), (8, .int y_8)]) hx hb d_Mo_adm_297 hl (k := 5) rfl (by rw [ex_73]; rfl) (by decide) rfl (fun ls hl => ?_)
          refine lv_goto (tgt := 225) hx hb d_Mo_adm_300 (by decide) ?_
          exact hr_225 y_1 y_2 y_3 y_4 x_73 S _ _ _ h hP hD hS (lv_sub hl [1, 2, 3, 4, 5, 0] rfl)
        · have h := lf_f h c_72
          refine lv_iconst (v := 5) hx hb d_Mo_adm_295 (by decide) ?_
          rw [hQ]
          have e1 : (5 : Int32) = r := congrArg Prod.fst (Option.some.inj h)
          have e2 : S = S' := congrArg Prod.snd (Option.some.inj h)
          have hP := lx_newP e2.symm hP
          have hD := lx_newD e2.symm hD
          exact W.iret (v := 5) hx hb hr (fun t ht hW => ⟨⟨5, (), rfl, e1, by rw [ht]; exact hP, va_K.moved hW.alike hK, hD⟩, hS.F ht⟩) hS.2.2 d_Mo_adm_296
      · have h := lf_f h c_71
        refine lv_iload hx hb d_Mo_adm_247 (lv_at hl 6 rfl) ?_
        refine lv_if_eq (tgt := 281) hx hb d_Mo_adm_249 (by decide) (fun c_74 => ?_) (fun c_74 => ?_)
        · have h := lf_t h c_74
          exact hB_281 _ hr_225 _ hr_240 y_1 y_2 y_3 y_4 y_6 y_8 S _ _ _ h hP hD hS (lv_sub hl [0, 1, 2, 3, 4, 5, 7] rfl)
        · have h := lf_f h c_74
          refine lv_aload_n hx hb d_Mo_adm_252 rfl (lv_at hl 0 rfl) ?_
          refine lv_aload_n hx hb d_Mo_adm_253 rfl (lv_at hl 0 rfl) ?_
          refine va_get (D := (dC, dI)) (ci := 12) (v := .ref M.a_at) (C := R_Mo) (T := F_Mo) (N := 66) hx hb hts (fun w h => u_Mq_Mo w (i_Mo w h)) hown hK hP 0 rfl rfl 24 (by decide) (hts _ (u_Mq_Mo _ k_Mo_31)) (fun _ h9 => h9) rfl d_Mo_adm_254 ?_
          refine lv_iload hx hb d_Mo_adm_257 (lv_at hl 5 rfl) ?_
          obtain ⟨g_75, h⟩ := lf_gE h
          refine va_iald hx hb hK hP 6 5 rfl rfl g_75 d_Mo_adm_259 ?_
          refine lv_iload hx hb d_Mo_adm_260 (lv_at hl 7 rfl) ?_
          refine lv_iadd hx hb d_Mo_adm_262 ?_
          obtain ⟨r_76, S_76, hc_76, h⟩ := lf_cE h
          have hFc := lx_free hD hS hA
          refine va_calli (va_runV (As := [.int ((S.v_at y_6.toNatClampNeg) + y_8)]) (rest := []) ⟨hx, hb, hml, hown, hts⟩ (l_Mo_one l dC dI X _ hc_76) (cwV 1 hts (gwV good_Mq (u_Mq_Mo _ k_Mo_94) (u_Mq_Mo _ k_Mo_95) (u_Mq_Mo _ k_Mo_475) (u_Mq_Mo _ k_Mo_0) (wcs (u_Mq_Mo _ k_Mo_96) (fun _ h => h))) rfl rfl rfl (by decide +kernel) ⟨Nat.le_of_ble_eq_true rfl, Nat.le_of_ble_eq_true rfl⟩) (pv_ofE (X.same _) (fun U z1 z2 => X.mono _ _ U hFc (hEw _ _ hS U z1 z2)) hP hK hD (va_recv hK hP (ci := 12) (q0 := 0) rfl rfl)) rfl rfl hl.1 rfl (lv_room (Nat.le_of_ble_eq_true rfl)) d_Mo_adm_263 ⟨by decide, by decide⟩) hS (fun q _ h => hFc q h) hFc (fun r_ u t H locs ht hvm hw hB hz1 hk1 hS => ?_)
          rw [hw]
          obtain ⟨hP, -, hD⟩ := hB
          rw [ht] at hP
          have hD := lx_dj hD hFc
          refine lv_aload_n hx hb d_Mo_adm_266 rfl (lv_at hl 0 rfl) ?_
          refine lv_iload_n hx hb d_Mo_adm_267 rfl (lv_at hl 1 rfl) ?_
          refine lv_iload hx hb d_Mo_adm_268 (lv_at hl 7 rfl) ?_
          refine lv_iadd hx hb d_Mo_adm_270 ?_
          obtain ⟨r_77, S_77, hc_77, h⟩ := lf_cE h
          have hFc := lx_free hD hS hA
          refine va_calli (va_runV (As := [.int (y_1 + y_8)]) (rest := [.int r_76]) ⟨hx, hb, hml, hown, hts⟩ (l_Mo_one l dC dI X _ hc_77) (cwV 1 hts (gwV good_Mq (u_Mq_Mo _ k_Mo_94) (u_Mq_Mo _ k_Mo_95) (u_Mq_Mo _ k_Mo_475) (u_Mq_Mo _ k_Mo_0) (wcs (u_Mq_Mo _ k_Mo_96) (fun _ h => h))) rfl rfl rfl (by decide +kernel) ⟨Nat.le_of_ble_eq_true rfl, Nat.le_of_ble_eq_true rfl⟩) (pv_ofE (X.same _) (fun U z1 z2 => X.mono _ _ U hFc (hEw _ _ hS U z1 z2)) hP hK hD (va_recv hK hP (ci := 12) (q0 := 0) rfl rfl)) rfl rfl hl.1 rfl (lv_room (Nat.le_of_ble_eq_true rfl)) d_Mo_adm_271 ⟨by decide, by decide⟩) hS (fun q _ h => hFc q h) hFc (fun r_ u t H locs ht hvm hw hB hz1 hk1 hS => ?_)
          rw [hw]
          obtain ⟨hP, -, hD⟩ := hB
          rw [ht] at hP
          have hD := lx_dj hD hFc
          refine lv_icmp_ne (tgt := 281) hx hb d_Mo_adm_274 (by decide) (fun c_78 => ?_) (fun c_78 => ?_)
          · have h := lf_f h c_78
            exact hB_281 _ hr_225 _ hr_240 y_1 y_2 y_3 y_4 y_6 y_8 S_77 _ _ _ h hP hD hS (lv_sub hl [0, 1, 2, 3, 4, 5, 7] rfl)
          · have h := lf_t h c_78
            refine lv_iconst (v := 1) hx hb d_Mo_adm_277 (by decide) ?_
            refine lv_goto (tgt := 282) hx hb d_Mo_adm_278 (by decide) ?_
            exact hB_282 _ hr_225 _ hr_240 y_1 y_2 y_3 y_4 y_6 y_8 1 S_77 _ _ _ h hP hD hS (lv_sub hl [0, 1, 2, 3, 4, 5, 7] rfl)
  have hB_527 : ∀ (S : MS) (H : Heap) (locs : List Loc) (ls : Array Slot), f_Mo_adm_527 K S = some (r, S') → va_P (dC, dI) classes (wM M S) H → va_D A (wM M S) → va_S A s.heap H locs → lv_has ls 9 [] → W p l e ({ frames := 9, cells := 0, slots := 0, locals := 267 }) s m ([.ref M.o, .int p0, .int p1, .int p2] : List Value).toArray below meth c H locs 0 0 Q (F0 m 527 ls []) := by
    intro S H locs ls h hP hD hS hl
    rw [f_Mo_adm_527] at h
    refine lv_iconst (v := 3) hx hb d_Mo_adm_527 (by decide) ?_
    rw [hQ]
    have e1 : (3 : Int32) = r := congrArg Prod.fst (Option.some.inj h)
    have e2 : S = S' := congrArg Prod.snd (Option.some.inj h)
    have hP := lx_newP e2.symm hP
    have hD := lx_newD e2.symm hD
    exact W.iret (v := 3) hx hb hr (fun t ht hW => ⟨⟨3, (), rfl, e1, by rw [ht]; exact hP, va_K.moved hW.alike hK, hD⟩, hS.F ht⟩) hS.2.2 d_Mo_adm_528
  have hB_375 : ∀ (k : Nat), ∀ (y_1 : Int32) (y_2 : Int32) (y_4 : Int32) (y_6 : Int32) (S : MS) (H : Heap) (locs : List Loc) (ls : Array Slot), f_Mo_adm_375 K k y_1 y_2 y_4 y_6 S = some (r, S') → va_P (dC, dI) classes (wM M S) H → va_D A (wM M S) → va_S A s.heap H locs → lv_has ls 9 [(0, .ref M.o), (1, .int y_1), (2, .int y_2), (4, .int y_4), (6, .int y_6)] → W p l e ({ frames := 9, cells := 0, slots := 0, locals := 267 }) s m ([.ref M.o, .int p0, .int p1, .int p2] : List Value).toArray below meth c H locs 0 0 Q (F0 m 375 ls []) := by
    intro k
    induction k with
    | zero => intro y_1 y_2 y_4 y_6 S H locs ls h; exact lf_no h
    | succ k hr_375 =>
      intro y_1 y_2 y_4 y_6 S H locs ls h hP hD hS hl
      rw [f_Mo_adm_375] at h
      refine lv_iload hx hb d_Mo_adm_375 (lv_at hl 4 rfl) ?_
      refine lv_aload_n hx hb d_Mo_adm_377 rfl (lv_at hl 0 rfl) ?_
      refine va_get (D := (dC, dI)) (ci := 12) (v := .int S.v_size) (C := R_Mo) (T := F_Mo) (N := 66) hx hb hts (fun w h => u_Mq_Mo w (i_Mo w h)) hown hK hP 0 rfl rfl 39 (by decide) (hts _ (u_Mq_Mo _ k_Mo_46)) (fun _ h9 => h9) rfl d_Mo_adm_378 ?_
      refine lv_icmp_ge (tgt := 409) hx hb d_Mo_adm_381 (by decide) (fun c_49 => ?_) (fun c_49 => ?_)
      · have h := lf_t h c_49
        refine lv_aload_n hx hb d_Mo_adm_409 rfl (lv_at hl 0 rfl) ?_
        refine lv_dup hx hb d_Mo_adm_410 rfl ?_
        refine va_get (D := (dC, dI)) (ci := 12) (v := .int S.v_units) (C := R_Mo) (T := F_Mo) (N := 66) hx hb hts (fun w h => u_Mq_Mo w (i_Mo w h)) hown hK hP 0 rfl rfl 22 (by decide) (hts _ (u_Mq_Mo _ k_Mo_29)) (fun _ h9 => h9) rfl d_Mo_adm_411 ?_
        refine lv_aload_n hx hb d_Mo_adm_414 rfl (lv_at hl 0 rfl) ?_
        refine va_get (D := (dC, dI)) (ci := 12) (v := .int S.v_size) (C := R_Mo) (T := F_Mo) (N := 66) hx hb hts (fun w h => u_Mq_Mo w (i_Mo w h)) hown hK hP 0 rfl rfl 39 (by decide) (hts _ (u_Mq_Mo _ k_Mo_46)) (fun _ h9 => h9) rfl d_Mo_adm_415 ?_
        refine lv_iadd hx hb d_Mo_adm_418 ?_
        refine va_put (D := (dC, dI)) (ci := 12) (v := .int (S.v_units + S.v_size)) (ty := .int) (C := R_Mo) (T := F_Mo) (N := 66) hx hb hts (fun w h => u_Mq_Mo w (i_Mo w h)) t_Mo t_Mo_ok n_Mo hown hK hP hD hS 0 rfl rfl 22 (by decide) (hts _ (u_Mq_Mo _ k_Mo_29)) (fun _ h9 => h9) rfl (by decide +kernel) rfl rfl (Nat.le_of_ble_eq_true rfl) d_Mo_adm_419 (fun H locs hP hD hS => ?_)
        obtain ⟨S_50, eS_50, h⟩ := lf_lX h
        have hP := lx_newP eS_50 hP
        have hD := lx_newD eS_50 hD
        refine lv_aload_n hx hb d_Mo_adm_422 rfl (lv_at hl 0 rfl) ?_
        refine lv_dup hx hb d_Mo_adm_423 rfl ?_
        refine va_get (D := (dC, dI)) (ci := 12) (v := .int S_50.v_items) (C := R_Mo) (T := F_Mo) (N := 66) hx hb hts (fun w h => u_Mq_Mo w (i_Mo w h)) hown hK hP 0 rfl rfl 21 (by decide) (hts _ (u_Mq_Mo _ k_Mo_28)) (fun _ h9 => h9) rfl d_Mo_adm_424 ?_
        refine lv_iconst (v := 1) hx hb d_Mo_adm_427 (by decide) ?_
        refine lv_iadd hx hb d_Mo_adm_428 ?_
        refine va_put (D := (dC, dI)) (ci := 12) (v := .int (S_50.v_items + 1)) (ty := .int) (C := R_Mo) (T := F_Mo) (N := 66) hx hb hts (fun w h => u_Mq_Mo w (i_Mo w h)) t_Mo t_Mo_ok n_Mo hown hK hP hD hS 0 rfl rfl 21 (by decide) (hts _ (u_Mq_Mo _ k_Mo_28)) (fun _ h9 => h9) rfl (by decide +kernel) rfl rfl (Nat.le_of_ble_eq_true rfl) d_Mo_adm_429 (fun H locs hP hD hS => ?_)
        obtain ⟨S_51, eS_51, h⟩ := lf_lX h
        have hP := lx_newP eS_51 hP
        have hD := lx_newD eS_51 hD
        refine lv_aload_n hx hb d_Mo_adm_432 rfl (lv_at hl 0 rfl) ?_
        refine va_get (D := (dC, dI)) (ci := 12) (v := .ref M.a_kids) (C := R_Mo) (T := F_Mo) (N := 66) hx hb hts (fun w h => u_Mq_Mo w (i_Mo w h)) hown hK hP 0 rfl rfl 28 (by decide) (hts _ (u_Mq_Mo _ k_Mo_35)) (fun _ h9 => h9) rfl d_Mo_adm_433 ?_
        refine lv_iload_n hx hb d_Mo_adm_436 rfl (lv_at hl 2 rfl) ?_
        refine lv_dup2_11 hx hb d_Mo_adm_437 rfl rfl ?_
        obtain ⟨g_52, h⟩ := lf_gE h
        refine va_iald hx hb hK hP 10 9 rfl rfl g_52 d_Mo_adm_438 ?_
        refine lv_iconst (v := 1) hx hb d_Mo_adm_439 (by decide) ?_
        refine lv_iadd hx hb d_Mo_adm_440 ?_
        obtain ⟨g_53, h⟩ := lf_gE h
        refine va_iast hx hb hK hP hD hS 10 9 rfl rfl g_53 d_Mo_adm_441 (fun H locs hP hD hS => ?_)
        obtain ⟨S_54, eS_54, h⟩ := lf_lX h
        have hP := lx_newP eS_54 hP
        have hD := lx_newD eS_54 hD
        refine lv_aload_n hx hb d_Mo_adm_442 rfl (lv_at hl 0 rfl) ?_
        refine lv_iconst (v := 0) hx hb d_Mo_adm_443 (by decide) ?_
        refine va_put (D := (dC, dI)) (ci := 12) (v := .int 0) (ty := .int) (C := R_Mo) (T := F_Mo) (N := 66) hx hb hts (fun w h => u_Mq_Mo w (i_Mo w h)) t_Mo t_Mo_ok n_Mo hown hK hP hD hS 0 rfl rfl 40 (by decide) (hts _ (u_Mq_Mo _ k_Mo_47)) (fun _ h9 => h9) rfl (by decide +kernel) rfl rfl (Nat.le_of_ble_eq_true rfl) d_Mo_adm_444 (fun H locs hP hD hS => ?_)
        obtain ⟨S_55, eS_55, h⟩ := lf_lX h
        have hP := lx_newP eS_55 hP
        have hD := lx_newD eS_55 hD
        refine lv_iload hx hb d_Mo_adm_447 (lv_at hl 3 rfl) ?_
        refine lv_bipush (v := 16) hx hb d_Mo_adm_449 (by decide) ?_
        refine lv_iand hx hb d_Mo_adm_451 ?_
        refine lv_if_eq (tgt := 457) hx hb d_Mo_adm_452 (by decide) (fun c_56 => ?_) (fun c_56 => ?_)
        · have h := lf_t h c_56
          refine lv_aload_n hx hb d_Mo_adm_457 rfl (lv_at hl 0 rfl) ?_
          refine lv_iload_n hx hb d_Mo_adm_458 rfl (lv_at hl 1 rfl) ?_
          refine lv_bipush (v := 28) hx hb d_Mo_adm_459 (by decide) ?_
          refine lv_iadd hx hb d_Mo_adm_461 ?_
          obtain ⟨r_57, S_57, hc_57, h⟩ := lf_cE h
          have hFc := lx_free hD hS hA
          refine va_calli (va_runV (As := [.int (y_1 + 28)]) (rest := []) ⟨hx, hb, hml, hown, hts⟩ (l_Mo_four l dC dI X _ hc_57) (cwV 1 hts (gwV good_Mq (u_Mq_Mo _ k_Mo_100) (u_Mq_Mo _ k_Mo_101) (u_Mq_Mo _ k_Mo_477) (u_Mq_Mo _ k_Mo_0) (wcs (u_Mq_Mo _ k_Mo_102) (fun _ h => h))) rfl rfl rfl (by decide +kernel) ⟨Nat.le_of_ble_eq_true rfl, Nat.le_of_ble_eq_true rfl⟩) (pv_ofE (X.same _) (fun U z1 z2 => X.mono _ _ U hFc (hEw _ _ hS U z1 z2)) hP hK hD (va_recv hK hP (ci := 12) (q0 := 0) rfl rfl)) rfl rfl hl.1 rfl (lv_room (Nat.le_of_ble_eq_true rfl)) d_Mo_adm_462 ⟨by decide, by decide⟩) hS (fun q _ h => hFc q h) hFc (fun r_ u t H locs ht hvm hw hB hz1 hk1 hS => ?_)
          rw [hw]
          obtain ⟨hP, -, hD⟩ := hB
          rw [ht] at hP
          have hD := lx_dj hD hFc
          refine lv_istore (lv' := [(6, .int r_57), (0, .ref M.o), (1, .int y_1), (2, .int y_2), (4, .int y_4)]) hx hb d_Mo_adm_465 hl (by decide) rfl (fun ls hl => ?_)
          refine lv_iload hx hb d_Mo_adm_467 (lv_at hl 0 rfl) ?_
          refine lv_if_ne (tgt := 486) hx hb d_Mo_adm_469 (by decide) (fun c_58 => ?_) (fun c_58 => ?_)
          · have h := lf_f h c_58
            refine lv_iload hx hb d_Mo_adm_486 (lv_at hl 0 rfl) ?_
            refine lv_if_le (tgt := 527) hx hb d_Mo_adm_488 (by decide) (fun c_59 => ?_) (fun c_59 => ?_)
            · have h := lf_t h c_59
              exact hB_527 S_57 _ _ _ h hP hD hS (lv_sub hl [] rfl)
            · have h := lf_f h c_59
              refine lv_aload_n hx hb d_Mo_adm_491 rfl (lv_at hl 1 rfl) ?_
              refine lv_aload_n hx hb d_Mo_adm_492 rfl (lv_at hl 1 rfl) ?_
              refine lv_iload_n hx hb d_Mo_adm_493 rfl (lv_at hl 2 rfl) ?_
              obtain ⟨r_60, S_60, hc_60, h⟩ := lf_cE h
              have hFc := lx_free hD hS hA
              refine va_calli (va_runV (As := [.int y_1]) (rest := [.ref M.o]) ⟨hx, hb, hml, hown, hts⟩ (l_Mo_firstOf l dC dI X _ hc_60) (cwV 1 hts (gwV good_Mq (u_Mq_Mo _ k_Mo_127) (u_Mq_Mo _ k_Mo_128) (u_Mq_Mo _ k_Mo_488) (u_Mq_Mo _ k_Mo_0) (wcs (u_Mq_Mo _ k_Mo_129) (fun _ h => h))) rfl rfl rfl (by decide +kernel) ⟨Nat.le_of_ble_eq_true rfl, Nat.le_of_ble_eq_true rfl⟩) (pv_ofE (X.same _) (fun U z1 z2 => X.mono _ _ U hFc (hEw _ _ hS U z1 z2)) hP hK hD (va_recv hK hP (ci := 12) (q0 := 0) rfl rfl)) rfl rfl hl.1 rfl (lv_room (Nat.le_of_ble_eq_true rfl)) d_Mo_adm_494 ⟨by decide, by decide⟩) hS (fun q _ h => hFc q h) hFc (fun r_ u t H locs ht hvm hw hB hz1 hk1 hS => ?_)
              rw [hw]
              obtain ⟨hP, -, hD⟩ := hB
              rw [ht] at hP
              have hD := lx_dj hD hFc
              obtain ⟨r_61, S_61, hc_61, h⟩ := lf_cE h
              have hFc := lx_free hD hS hA
              refine va_calli (va_runV (As := [.int r_60]) (rest := []) ⟨hx, hb, hml, hown, hts⟩ (l_Mo_follows l dC dI X _ hc_61) (cwV 1 hts (gwV good_Mq (u_Mq_Mo _ k_Mo_130) (u_Mq_Mo _ k_Mo_131) (u_Mq_Mo _ k_Mo_486) (u_Mq_Mo _ k_Mo_0) (wcs (u_Mq_Mo _ k_Mo_132) (fun _ h => h))) rfl rfl rfl (by decide +kernel) ⟨Nat.le_of_ble_eq_true rfl, Nat.le_of_ble_eq_true rfl⟩) (pv_ofE (X.same _) (fun U z1 z2 => X.mono _ _ U hFc (hEw _ _ hS U z1 z2)) hP hK hD (va_recv hK hP (ci := 12) (q0 := 0) rfl rfl)) rfl rfl hl.1 rfl (lv_room (Nat.le_of_ble_eq_true rfl)) d_Mo_adm_497 ⟨by decide, by decide⟩) hS (fun q _ h => hFc q h) hFc (fun r_ u t H locs ht hvm hw hB hz1 hk1 hS => ?_)
              rw [hw]
              obtain ⟨hP, -, hD⟩ := hB
              rw [ht] at hP
              have hD := lx_dj hD hFc
              refine lv_if_eq (tgt := 527) hx hb d_Mo_adm_500 (by decide) (fun c_62 => ?_) (fun c_62 => ?_)
              · have h := lf_t h c_62
                exact hB_527 S_61 _ _ _ h hP hD hS (lv_sub hl [] rfl)
              · have h := lf_f h c_62
                refine lv_aload_n hx hb d_Mo_adm_503 rfl (lv_at hl 1 rfl) ?_
                refine va_get (D := (dC, dI)) (ci := 12) (v := .int S_61.v_links) (C := R_Mo) (T := F_Mo) (N := 66) hx hb hts (fun w h => u_Mq_Mo w (i_Mo w h)) hown hK hP 0 rfl rfl 35 (by decide) (hts _ (u_Mq_Mo _ k_Mo_42)) (fun _ h9 => h9) rfl d_Mo_adm_504 ?_
                refine lv_iload hx hb d_Mo_adm_507 (lv_at hl 0 rfl) ?_
                refine lv_sipush (v := 512) hx hb d_Mo_adm_509 (by decide) ?_
                refine lv_aload_n hx hb d_Mo_adm_512 rfl (lv_at hl 1 rfl) ?_
                refine va_get (D := (dC, dI)) (ci := 12) (v := .int S_61.v_c) (C := R_Mo) (T := F_Mo) (N := 66) hx hb hts (fun w h => u_Mq_Mo w (i_Mo w h)) hown hK hP 0 rfl rfl 11 (by decide) (hts _ (u_Mq_Mo _ k_Mo_18)) (fun _ h9 => h9) rfl d_Mo_adm_513 ?_
                refine lv_imul hx hb d_Mo_adm_516 ?_
                obtain ⟨r_63, hc_63, h⟩ := lf_bE h
                have hFc := lx_free0 hS hA
                refine va_calli (va_runS (As := [.int r_57, .int (512 * S_61.v_c)]) (rest := [.int S_61.v_links]) ⟨hx, hb, hml, hown, hts⟩ (l_Mo_whole l dC dI  _ hc_63) (va_cwS 2 hts (gwS good_Mq (u_Mq_Mo _ k_Mo_178) (u_Mq_Mo _ k_Mo_179) (u_Mq_Mo _ k_Mo_0) (wcs (u_Mq_Mo _ k_Mo_180) (fun _ h => h))) rfl rfl rfl (by decide +kernel) ⟨Nat.le_of_ble_eq_true rfl, Nat.le_of_ble_eq_true rfl⟩) (ps_of (W := []) (tys := []) (hP.sub (ws' := []) [] rfl) (hK.sub [] rfl) (hD.sub (ws' := []) [] (by decide) rfl)) rfl rfl hl.1 rfl (lv_room (Nat.le_of_ble_eq_true rfl)) d_Mo_adm_517 ⟨by decide, by decide⟩) hS (fun q _ h => hFc q h) hFc (fun r_ u t H locs ht hvm hw hB hz1 hk1 hS => ?_)
                rw [hw]
                have hP := lx_stat (A := A) hP hk1
                refine lv_icmp_ne (tgt := 527) hx hb d_Mo_adm_520 (by decide) (fun c_64 => ?_) (fun c_64 => ?_)
                · have h := lf_f h c_64
                  exact hB_527 S_61 _ _ _ h hP hD hS (lv_sub hl [] rfl)
                · have h := lf_t h c_64
                  refine lv_iconst (v := 0) hx hb d_Mo_adm_523 (by decide) ?_
                  refine lv_goto (tgt := 528) hx hb d_Mo_adm_524 (by decide) ?_
                  rw [hQ]
                  have e1 : (0 : Int32) = r := congrArg Prod.fst (Option.some.inj h)
                  have e2 : S_61 = S' := congrArg Prod.snd (Option.some.inj h)
                  have hP := lx_newP e2.symm hP
                  have hD := lx_newD e2.symm hD
                  exact W.iret (v := 0) hx hb hr (fun t ht hW => ⟨⟨0, (), rfl, e1, by rw [ht]; exact hP, va_K.moved hW.alike hK, hD⟩, hS.F ht⟩) hS.2.2 d_Mo_adm_528
          · have h := lf_t h c_58
            refine lv_aload_n hx hb d_Mo_adm_472 rfl (lv_at hl 1 rfl) ?_
            refine lv_iload_n hx hb d_Mo_adm_473 rfl (lv_at hl 2 rfl) ?_
            obtain ⟨r_65, S_65, hc_65, h⟩ := lf_cE h
            have hFc := lx_free hD hS hA
            refine va_calli (va_runV (As := [.int y_1]) (rest := []) ⟨hx, hb, hml, hown, hts⟩ (l_Mo_firstOf l dC dI X _ hc_65) (cwV 1 hts (gwV good_Mq (u_Mq_Mo _ k_Mo_127) (u_Mq_Mo _ k_Mo_128) (u_Mq_Mo _ k_Mo_488) (u_Mq_Mo _ k_Mo_0) (wcs (u_Mq_Mo _ k_Mo_129) (fun _ h => h))) rfl rfl rfl (by decide +kernel) ⟨Nat.le_of_ble_eq_true rfl, Nat.le_of_ble_eq_true rfl⟩) (pv_ofE (X.same _) (fun U z1 z2 => X.mono _ _ U hFc (hEw _ _ hS U z1 z2)) hP hK hD (va_recv hK hP (ci := 12) (q0 := 0) rfl rfl)) rfl rfl hl.1 rfl (lv_room (Nat.le_of_ble_eq_true rfl)) d_Mo_adm_474 ⟨by decide, by decide⟩) hS (fun q _ h => hFc q h) hFc (fun r_ u t H locs ht hvm hw hB hz1 hk1 hS => ?_)
            rw [hw]
            obtain ⟨hP, -, hD⟩ := hB
            rw [ht] at hP
            have hD := lx_dj hD hFc
            refine lv_if_ne (tgt := 484) hx hb d_Mo_adm_477 (by decide) (fun c_66 => ?_) (fun c_66 => ?_)
            · have h := lf_f h c_66
              refine lv_iconst (v := 3) hx hb d_Mo_adm_484 (by decide) ?_
              rw [hQ]
              have e1 : (3 : Int32) = r := congrArg Prod.fst (Option.some.inj h)
              have e2 : S_65 = S' := congrArg Prod.snd (Option.some.inj h)
              have hP := lx_newP e2.symm hP
              have hD := lx_newD e2.symm hD
              exact W.iret (v := 3) hx hb hr (fun t ht hW => ⟨⟨3, (), rfl, e1, by rw [ht]; exact hP, va_K.moved hW.alike hK, hD⟩, hS.F ht⟩) hS.2.2 d_Mo_adm_485
            · have h := lf_t h c_66
              refine lv_iconst (v := 0) hx hb d_Mo_adm_480 (by decide) ?_
              refine lv_goto (tgt := 485) hx hb d_Mo_adm_481 (by decide) ?_
              rw [hQ]
              have e1 : (0 : Int32) = r := congrArg Prod.fst (Option.some.inj h)
              have e2 : S_65 = S' := congrArg Prod.snd (Option.some.inj h)
              have hP := lx_newP e2.symm hP
              have hD := lx_newD e2.symm hD
              exact W.iret (v := 0) hx hb hr (fun t ht hW => ⟨⟨0, (), rfl, e1, by rw [ht]; exact hP, va_K.moved hW.alike hK, hD⟩, hS.F ht⟩) hS.2.2 d_Mo_adm_485
        · have h := lf_f h c_56
          refine lv_iconst (v := 0) hx hb d_Mo_adm_455 (by decide) ?_
          rw [hQ]
          have e1 : (0 : Int32) = r := congrArg Prod.fst (Option.some.inj h)
          have e2 : S_55 = S' := congrArg Prod.snd (Option.some.inj h)
          have hP := lx_newP e2.symm hP
          have hD := lx_newD e2.symm hD
          exact W.iret (v := 0) hx hb hr (fun t ht hW => ⟨⟨0, (), rfl, e1, by rw [ht]; exact hP, va_K.moved hW.alike hK, hD⟩, hS.F ht⟩) hS.2.2 d_Mo_adm_456
      · have h := lf_f h c_49
        refine lv_aload_n hx hb d_Mo_adm_384 rfl (lv_at hl 0 rfl) ?_
        refine va_get (D := (dC, dI)) (ci := 12) (v := .ref M.a_unit) (C := R_Mo) (T := F_Mo) (N := 66) hx hb hts (fun w h => u_Mq_Mo w (i_Mo w h)) hown hK hP 0 rfl rfl 32 (by decide) (hts _ (u_Mq_Mo _ k_Mo_39)) (fun _ h9 => h9) rfl d_Mo_adm_385 ?_
        refine lv_aload_n hx hb d_Mo_adm_388 rfl (lv_at hl 0 rfl) ?_
        refine va_get (D := (dC, dI)) (ci := 12) (v := .int S.v_units) (C := R_Mo) (T := F_Mo) (N := 66) hx hb hts (fun w h => u_Mq_Mo w (i_Mo w h)) hown hK hP 0 rfl rfl 22 (by decide) (hts _ (u_Mq_Mo _ k_Mo_29)) (fun _ h9 => h9) rfl d_Mo_adm_389 ?_
        refine lv_iload hx hb d_Mo_adm_392 (lv_at hl 4 rfl) ?_
        refine lv_iadd hx hb d_Mo_adm_394 ?_
        refine lv_aload_n hx hb d_Mo_adm_395 rfl (lv_at hl 0 rfl) ?_
        refine va_get (D := (dC, dI)) (ci := 12) (v := .ref M.a_name) (C := R_Mo) (T := F_Mo) (N := 66) hx hb hts (fun w h => u_Mq_Mo w (i_Mo w h)) hown hK hP 0 rfl rfl 38 (by decide) (hts _ (u_Mq_Mo _ k_Mo_45)) (fun _ h9 => h9) rfl d_Mo_adm_396 ?_
        refine lv_iload hx hb d_Mo_adm_399 (lv_at hl 4 rfl) ?_
        obtain ⟨g_67, h⟩ := lf_gE h
        refine va_cald hx hb hK hP 17 16 rfl rfl g_67 d_Mo_adm_401 ?_
        obtain ⟨g_68, h⟩ := lf_gE h
        refine va_cast hx hb hK hP hD hS 14 13 rfl rfl g_68 d_Mo_adm_402 (fun H locs hP hD hS => ?_)
        obtain ⟨S_69, eS_69, h⟩ := lf_lX h
        have hP := lx_newP eS_69 hP
        have hD := lx_newD eS_69 hD
        obtain ⟨x_70, ex_70, h⟩ := lf_lX h
        refine lv_iinc (v := x_70) (lv' := [(6, .int x_70), (0, .ref M.o), (1, .int y_1), (2, .int y_2), (4, .int y_4)]) hx hb d_Mo_adm_403 hl (k := 4) rfl (by rw [ex_70]; rfl) (by decide) rfl (fun ls hl => ?_)
        refine lv_goto (tgt := 375) hx hb d_Mo_adm_406 (by decide) ?_
        exact hr_375 y_1 y_2 y_4 x_70 S_69 _ _ _ h hP hD hS (lv_sub hl [1, 2, 3, 4, 0] rfl)
  have hB_225 : ∀ (k : Nat), ∀ (y_1 : Int32) (y_2 : Int32) (y_3 : Int32) (y_4 : Int32) (y_6 : Int32) (S : MS) (H : Heap) (locs : List Loc) (ls : Array Slot), f_Mo_adm_225 K k y_1 y_2 y_3 y_4 y_6 S = some (r, S') → va_P (dC, dI) classes (wM M S) H → va_D A (wM M S) → va_S A s.heap H locs → lv_has ls 9 [(0, .ref M.o), (1, .int y_1), (2, .int y_2), (3, .int y_3), (4, .int y_4), (6, .int y_6)] → W p l e ({ frames := 9, cells := 0, slots := 0, locals := 267 }) s m ([.ref M.o, .int p0, .int p1, .int p2] : List Value).toArray below meth c H locs 0 0 Q (F0 m 225 ls []) := by
    intro k
    induction k with
    | zero => intro y_1 y_2 y_3 y_4 y_6 S H locs ls h; exact lf_no h
    | succ k hr_225 =>
      intro y_1 y_2 y_3 y_4 y_6 S H locs ls h hP hD hS hl
      rw [f_Mo_adm_225] at h
      refine lv_iload hx hb d_Mo_adm_225 (lv_at hl 5 rfl) ?_
      refine lv_aload_n hx hb d_Mo_adm_227 rfl (lv_at hl 0 rfl) ?_
      refine va_get (D := (dC, dI)) (ci := 12) (v := .int S.v_items) (C := R_Mo) (T := F_Mo) (N := 66) hx hb hts (fun w h => u_Mq_Mo w (i_Mo w h)) hown hK hP 0 rfl rfl 21 (by decide) (hts _ (u_Mq_Mo _ k_Mo_28)) (fun _ h9 => h9) rfl d_Mo_adm_228 ?_
      refine lv_icmp_ge (tgt := 303) hx hb d_Mo_adm_231 (by decide) (fun c_36 => ?_) (fun c_36 => ?_)
      · have h := lf_t h c_36
        refine lv_aload_n hx hb d_Mo_adm_303 rfl (lv_at hl 0 rfl) ?_
        refine va_get (D := (dC, dI)) (ci := 12) (v := .ref M.a_at) (C := R_Mo) (T := F_Mo) (N := 66) hx hb hts (fun w h => u_Mq_Mo w (i_Mo w h)) hown hK hP 0 rfl rfl 24 (by decide) (hts _ (u_Mq_Mo _ k_Mo_31)) (fun _ h9 => h9) rfl d_Mo_adm_304 ?_
        refine lv_aload_n hx hb d_Mo_adm_307 rfl (lv_at hl 0 rfl) ?_
        refine va_get (D := (dC, dI)) (ci := 12) (v := .int S.v_items) (C := R_Mo) (T := F_Mo) (N := 66) hx hb hts (fun w h => u_Mq_Mo w (i_Mo w h)) hown hK hP 0 rfl rfl 21 (by decide) (hts _ (u_Mq_Mo _ k_Mo_28)) (fun _ h9 => h9) rfl d_Mo_adm_308 ?_
        refine lv_iload_n hx hb d_Mo_adm_311 rfl (lv_at hl 1 rfl) ?_
        obtain ⟨g_37, h⟩ := lf_gE h
        refine va_iast hx hb hK hP hD hS 6 5 rfl rfl g_37 d_Mo_adm_312 (fun H locs hP hD hS => ?_)
        obtain ⟨S_38, eS_38, h⟩ := lf_lX h
        have hP := lx_newP eS_38 hP
        have hD := lx_newD eS_38 hD
        refine lv_aload_n hx hb d_Mo_adm_313 rfl (lv_at hl 0 rfl) ?_
        refine va_get (D := (dC, dI)) (ci := 12) (v := .ref M.a_slot) (C := R_Mo) (T := F_Mo) (N := 66) hx hb hts (fun w h => u_Mq_Mo w (i_Mo w h)) hown hK hP 0 rfl rfl 25 (by decide) (hts _ (u_Mq_Mo _ k_Mo_32)) (fun _ h9 => h9) rfl d_Mo_adm_314 ?_
        refine lv_aload_n hx hb d_Mo_adm_317 rfl (lv_at hl 0 rfl) ?_
        refine va_get (D := (dC, dI)) (ci := 12) (v := .int S_38.v_items) (C := R_Mo) (T := F_Mo) (N := 66) hx hb hts (fun w h => u_Mq_Mo w (i_Mo w h)) hown hK hP 0 rfl rfl 21 (by decide) (hts _ (u_Mq_Mo _ k_Mo_28)) (fun _ h9 => h9) rfl d_Mo_adm_318 ?_
        refine lv_iload_n hx hb d_Mo_adm_321 rfl (lv_at hl 3 rfl) ?_
        obtain ⟨g_39, h⟩ := lf_gE h
        refine va_iast hx hb hK hP hD hS 7 6 rfl rfl g_39 d_Mo_adm_322 (fun H locs hP hD hS => ?_)
        obtain ⟨S_40, eS_40, h⟩ := lf_lX h
        have hP := lx_newP eS_40 hP
        have hD := lx_newD eS_40 hD
        refine lv_aload_n hx hb d_Mo_adm_323 rfl (lv_at hl 0 rfl) ?_
        refine va_get (D := (dC, dI)) (ci := 12) (v := .ref M.a_parts) (C := R_Mo) (T := F_Mo) (N := 66) hx hb hts (fun w h => u_Mq_Mo w (i_Mo w h)) hown hK hP 0 rfl rfl 26 (by decide) (hts _ (u_Mq_Mo _ k_Mo_33)) (fun _ h9 => h9) rfl d_Mo_adm_324 ?_
        refine lv_aload_n hx hb d_Mo_adm_327 rfl (lv_at hl 0 rfl) ?_
        refine va_get (D := (dC, dI)) (ci := 12) (v := .int S_40.v_items) (C := R_Mo) (T := F_Mo) (N := 66) hx hb hts (fun w h => u_Mq_Mo w (i_Mo w h)) hown hK hP 0 rfl rfl 21 (by decide) (hts _ (u_Mq_Mo _ k_Mo_28)) (fun _ h9 => h9) rfl d_Mo_adm_328 ?_
        refine lv_aload_n hx hb d_Mo_adm_331 rfl (lv_at hl 0 rfl) ?_
        refine va_get (D := (dC, dI)) (ci := 12) (v := .int S_40.v_met) (C := R_Mo) (T := F_Mo) (N := 66) hx hb hts (fun w h => u_Mq_Mo w (i_Mo w h)) hown hK hP 0 rfl rfl 40 (by decide) (hts _ (u_Mq_Mo _ k_Mo_47)) (fun _ h9 => h9) rfl d_Mo_adm_332 ?_
        obtain ⟨g_41, h⟩ := lf_gE h
        refine va_iast hx hb hK hP hD hS 8 7 rfl rfl g_41 d_Mo_adm_335 (fun H locs hP hD hS => ?_)
        obtain ⟨S_42, eS_42, h⟩ := lf_lX h
        have hP := lx_newP eS_42 hP
        have hD := lx_newD eS_42 hD
        refine lv_aload_n hx hb d_Mo_adm_336 rfl (lv_at hl 0 rfl) ?_
        refine va_get (D := (dC, dI)) (ci := 12) (v := .ref M.a_parent) (C := R_Mo) (T := F_Mo) (N := 66) hx hb hts (fun w h => u_Mq_Mo w (i_Mo w h)) hown hK hP 0 rfl rfl 27 (by decide) (hts _ (u_Mq_Mo _ k_Mo_34)) (fun _ h9 => h9) rfl d_Mo_adm_337 ?_
        refine lv_aload_n hx hb d_Mo_adm_340 rfl (lv_at hl 0 rfl) ?_
        refine va_get (D := (dC, dI)) (ci := 12) (v := .int S_42.v_items) (C := R_Mo) (T := F_Mo) (N := 66) hx hb hts (fun w h => u_Mq_Mo w (i_Mo w h)) hown hK hP 0 rfl rfl 21 (by decide) (hts _ (u_Mq_Mo _ k_Mo_28)) (fun _ h9 => h9) rfl d_Mo_adm_341 ?_
        refine lv_iload_n hx hb d_Mo_adm_344 rfl (lv_at hl 2 rfl) ?_
        obtain ⟨g_43, h⟩ := lf_gE h
        refine va_iast hx hb hK hP hD hS 9 8 rfl rfl g_43 d_Mo_adm_345 (fun H locs hP hD hS => ?_)
        obtain ⟨S_44, eS_44, h⟩ := lf_lX h
        have hP := lx_newP eS_44 hP
        have hD := lx_newD eS_44 hD
        refine lv_aload_n hx hb d_Mo_adm_346 rfl (lv_at hl 0 rfl) ?_
        refine va_get (D := (dC, dI)) (ci := 12) (v := .ref M.a_nameAt) (C := R_Mo) (T := F_Mo) (N := 66) hx hb hts (fun w h => u_Mq_Mo w (i_Mo w h)) hown hK hP 0 rfl rfl 30 (by decide) (hts _ (u_Mq_Mo _ k_Mo_37)) (fun _ h9 => h9) rfl d_Mo_adm_347 ?_
        refine lv_aload_n hx hb d_Mo_adm_350 rfl (lv_at hl 0 rfl) ?_
        refine va_get (D := (dC, dI)) (ci := 12) (v := .int S_44.v_items) (C := R_Mo) (T := F_Mo) (N := 66) hx hb hts (fun w h => u_Mq_Mo w (i_Mo w h)) hown hK hP 0 rfl rfl 21 (by decide) (hts _ (u_Mq_Mo _ k_Mo_28)) (fun _ h9 => h9) rfl d_Mo_adm_351 ?_
        refine lv_aload_n hx hb d_Mo_adm_354 rfl (lv_at hl 0 rfl) ?_
        refine va_get (D := (dC, dI)) (ci := 12) (v := .int S_44.v_units) (C := R_Mo) (T := F_Mo) (N := 66) hx hb hts (fun w h => u_Mq_Mo w (i_Mo w h)) hown hK hP 0 rfl rfl 22 (by decide) (hts _ (u_Mq_Mo _ k_Mo_29)) (fun _ h9 => h9) rfl d_Mo_adm_355 ?_
        obtain ⟨g_45, h⟩ := lf_gE h
        refine va_iast hx hb hK hP hD hS 12 11 rfl rfl g_45 d_Mo_adm_358 (fun H locs hP hD hS => ?_)
        obtain ⟨S_46, eS_46, h⟩ := lf_lX h
        have hP := lx_newP eS_46 hP
        have hD := lx_newD eS_46 hD
        refine lv_aload_n hx hb d_Mo_adm_359 rfl (lv_at hl 0 rfl) ?_
        refine va_get (D := (dC, dI)) (ci := 12) (v := .ref M.a_nameSize) (C := R_Mo) (T := F_Mo) (N := 66) hx hb hts (fun w h => u_Mq_Mo w (i_Mo w h)) hown hK hP 0 rfl rfl 31 (by decide) (hts _ (u_Mq_Mo _ k_Mo_38)) (fun _ h9 => h9) rfl d_Mo_adm_360 ?_
        refine lv_aload_n hx hb d_Mo_adm_363 rfl (lv_at hl 0 rfl) ?_
        refine va_get (D := (dC, dI)) (ci := 12) (v := .int S_46.v_items) (C := R_Mo) (T := F_Mo) (N := 66) hx hb hts (fun w h => u_Mq_Mo w (i_Mo w h)) hown hK hP 0 rfl rfl 21 (by decide) (hts _ (u_Mq_Mo _ k_Mo_28)) (fun _ h9 => h9) rfl d_Mo_adm_364 ?_
        refine lv_aload_n hx hb d_Mo_adm_367 rfl (lv_at hl 0 rfl) ?_
        refine va_get (D := (dC, dI)) (ci := 12) (v := .int S_46.v_size) (C := R_Mo) (T := F_Mo) (N := 66) hx hb hts (fun w h => u_Mq_Mo w (i_Mo w h)) hown hK hP 0 rfl rfl 39 (by decide) (hts _ (u_Mq_Mo _ k_Mo_46)) (fun _ h9 => h9) rfl d_Mo_adm_368 ?_
        obtain ⟨g_47, h⟩ := lf_gE h
        refine va_iast hx hb hK hP hD hS 13 12 rfl rfl g_47 d_Mo_adm_371 (fun H locs hP hD hS => ?_)
        obtain ⟨S_48, eS_48, h⟩ := lf_lX h
        have hP := lx_newP eS_48 hP
        have hD := lx_newD eS_48 hD
        refine lv_iconst (v := 0) hx hb d_Mo_adm_372 (by decide) ?_
        refine lv_istore (lv' := [(6, .int 0), (0, .ref M.o), (1, .int y_1), (2, .int y_2), (3, .int y_3), (4, .int y_4)]) hx hb d_Mo_adm_373 hl (by decide) rfl (fun ls hl => ?_)
        exact hB_375 K y_1 y_2 y_4 0 S_48 _ _ _ h hP hD hS (lv_sub hl [1, 2, 3, 5, 0] rfl)
      · have h := lf_f h c_36
        refine lv_iconst (v := 1) hx hb d_Mo_adm_234 (by decide) ?_
        refine lv_istore (lv' := [(7, .int 1), (0, .ref M.o), (1, .int y_1), (2, .int y_2), (3, .int y_3), (4, .int y_4), (6, .int y_6)]) hx hb d_Mo_adm_235 hl (by decide) rfl (fun ls hl => ?_)
        refine lv_iconst (v := 0) hx hb d_Mo_adm_237 (by decide) ?_
        refine lv_istore (lv' := [(8, .int 0), (7, .int 1), (0, .ref M.o), (1, .int y_1), (2, .int y_2), (3, .int y_3), (4, .int y_4), (6, .int y_6)]) hx hb d_Mo_adm_238 hl (by decide) rfl (fun ls hl => ?_)
        exact hB_240 _ hr_225 K y_1 y_2 y_3 y_4 y_6 1 0 S _ _ _ h hP hD hS (lv_sub hl [2, 3, 4, 5, 6, 7, 1, 0] rfl)
  have hB_200 : ∀ (y_1 : Int32) (y_2 : Int32) (y_3 : Int32) (y_4 : Int32) (y_5 : Int32) (S : MS) (H : Heap) (locs : List Loc) (ls : Array Slot), f_Mo_adm_200 K y_1 y_2 y_3 y_4 y_5 S = some (r, S') → va_P (dC, dI) classes (wM M S) H → va_D A (wM M S) → va_S A s.heap H locs → lv_has ls 9 [(0, .ref M.o), (1, .int y_1), (2, .int y_2), (3, .int y_3), (4, .int y_4), (5, .int y_5)] → W p l e ({ frames := 9, cells := 0, slots := 0, locals := 267 }) s m ([.ref M.o, .int p0, .int p1, .int p2] : List Value).toArray below meth c H locs 0 0 Q (F0 m 200 ls []) := by
    intro y_1 y_2 y_3 y_4 y_5 S H locs ls h hP hD hS hl
    rw [f_Mo_adm_200] at h
    refine lv_iload hx hb d_Mo_adm_200 (lv_at hl 5 rfl) ?_
    refine lv_if_eq (tgt := 207) hx hb d_Mo_adm_202 (by decide) (fun c_31 => ?_) (fun c_31 => ?_)
    · have h := lf_t h c_31
      refine lv_aload_n hx hb d_Mo_adm_207 rfl (lv_at hl 0 rfl) ?_
      refine lv_iload_n hx hb d_Mo_adm_208 rfl (lv_at hl 2 rfl) ?_
      obtain ⟨r_32, S_32, hc_32, h⟩ := lf_cE h
      have hFc := lx_free hD hS hA
      refine va_calli (va_runV (As := [.int y_2]) (rest := []) ⟨hx, hb, hml, hown, hts⟩ (l_Mo_isTaken l dC dI X _ hc_32) (cwV 1 hts (gwV good_Mq (u_Mq_Mo _ k_Mo_190) (u_Mq_Mo _ k_Mo_191) (u_Mq_Mo _ k_Mo_504) (u_Mq_Mo _ k_Mo_0) (wcs (u_Mq_Mo _ k_Mo_192) (fun _ h => h))) rfl rfl rfl (by decide +kernel) ⟨Nat.le_of_ble_eq_true rfl, Nat.le_of_ble_eq_true rfl⟩) (pv_ofE (X.same _) (fun U z1 z2 => X.mono _ _ U hFc (hEw _ _ hS U z1 z2)) hP hK hD (va_recv hK hP (ci := 12) (q0 := 0) rfl rfl)) rfl rfl hl.1 rfl (lv_room (Nat.le_of_ble_eq_true rfl)) d_Mo_adm_209 ⟨by decide, by decide⟩) hS (fun q _ h => hFc q h) hFc (fun r_ u t H locs ht hvm hw hB hz1 hk1 hS => ?_)
      rw [hw]
      obtain ⟨hP, -, hD⟩ := hB
      rw [ht] at hP
      have hD := lx_dj hD hFc
      refine lv_if_eq (tgt := 217) hx hb d_Mo_adm_212 (by decide) (fun c_33 => ?_) (fun c_33 => ?_)
      · have h := lf_t h c_33
        refine lv_aload_n hx hb d_Mo_adm_217 rfl (lv_at hl 0 rfl) ?_
        refine va_get (D := (dC, dI)) (ci := 12) (v := .ref M.a_firstKid) (C := R_Mo) (T := F_Mo) (N := 66) hx hb hts (fun w h => u_Mq_Mo w (i_Mo w h)) hown hK hP 0 rfl rfl 29 (by decide) (hts _ (u_Mq_Mo _ k_Mo_36)) (fun _ h9 => h9) rfl d_Mo_adm_218 ?_
        refine lv_iload_n hx hb d_Mo_adm_221 rfl (lv_at hl 2 rfl) ?_
        obtain ⟨g_34, h⟩ := lf_gE h
        refine va_iald hx hb hK hP 11 10 rfl rfl g_34 d_Mo_adm_222 ?_
        refine lv_topi (fun x_35 ex_35 => ?_)
        have h := lf_lE h ex_35
        refine lv_istore (lv' := [(6, .int x_35), (0, .ref M.o), (1, .int y_1), (2, .int y_2), (3, .int y_3), (4, .int y_4), (5, .int y_5)]) hx hb d_Mo_adm_223 hl (by decide) rfl (fun ls hl => ?_)
        exact hB_225 K y_1 y_2 y_3 y_4 x_35 S_32 _ _ _ h hP hD hS (lv_sub hl [1, 2, 3, 4, 5, 0] rfl)
      · have h := lf_f h c_33
        refine lv_iconst (v := 5) hx hb d_Mo_adm_215 (by decide) ?_
        rw [hQ]
        have e1 : (5 : Int32) = r := congrArg Prod.fst (Option.some.inj h)
        have e2 : S_32 = S' := congrArg Prod.snd (Option.some.inj h)
        have hP := lx_newP e2.symm hP
        have hD := lx_newD e2.symm hD
        exact W.iret (v := 5) hx hb hr (fun t ht hW => ⟨⟨5, (), rfl, e1, by rw [ht]; exact hP, va_K.moved hW.alike hK, hD⟩, hS.F ht⟩) hS.2.2 d_Mo_adm_216
    · have h := lf_f h c_31
      refine lv_iconst (v := 4) hx hb d_Mo_adm_205 (by decide) ?_
      rw [hQ]
      have e1 : (4 : Int32) = r := congrArg Prod.fst (Option.some.inj h)
      have e2 : S = S' := congrArg Prod.snd (Option.some.inj h)
      have hP := lx_newP e2.symm hP
      have hD := lx_newD e2.symm hD
      exact W.iret (v := 4) hx hb hr (fun t ht hW => ⟨⟨4, (), rfl, e1, by rw [ht]; exact hP, va_K.moved hW.alike hK, hD⟩, hS.F ht⟩) hS.2.2 d_Mo_adm_206
  have hB_190 : ∀ (y_1 : Int32) (y_2 : Int32) (y_3 : Int32) (y_4 : Int32) (z_0 : Int32) (S : MS) (H : Heap) (locs : List Loc) (ls : Array Slot), f_Mo_adm_190 K y_1 y_2 y_3 y_4 z_0 S = some (r, S') → va_P (dC, dI) classes (wM M S) H → va_D A (wM M S) → va_S A s.heap H locs → lv_has ls 9 [(0, .ref M.o), (1, .int y_1), (2, .int y_2), (3, .int y_3), (4, .int y_4)] → W p l e ({ frames := 9, cells := 0, slots := 0, locals := 267 }) s m ([.ref M.o, .int p0, .int p1, .int p2] : List Value).toArray below meth c H locs 0 0 Q (F0 m 190 ls [.int z_0]) := by
    intro y_1 y_2 y_3 y_4 z_0 S H locs ls h hP hD hS hl
    rw [f_Mo_adm_190] at h
    refine lv_istore (lv' := [(5, .int z_0), (0, .ref M.o), (1, .int y_1), (2, .int y_2), (3, .int y_3), (4, .int y_4)]) hx hb d_Mo_adm_190 hl (by decide) rfl (fun ls hl => ?_)
    refine lv_goto (tgt := 200) hx hb d_Mo_adm_192 (by decide) ?_
    exact hB_200 y_1 y_2 y_3 y_4 z_0 S _ _ _ h hP hD hS (lv_sub hl [1, 2, 3, 4, 5, 0] rfl)
  have hB_185 : ∀ (y_1 : Int32) (y_2 : Int32) (y_3 : Int32) (y_4 : Int32) (S : MS) (H : Heap) (locs : List Loc) (ls : Array Slot), f_Mo_adm_185 K y_1 y_2 y_3 y_4 S = some (r, S') → va_P (dC, dI) classes (wM M S) H → va_D A (wM M S) → va_S A s.heap H locs → lv_has ls 9 [(0, .ref M.o), (1, .int y_1), (2, .int y_2), (3, .int y_3), (4, .int y_4)] → W p l e ({ frames := 9, cells := 0, slots := 0, locals := 267 }) s m ([.ref M.o, .int p0, .int p1, .int p2] : List Value).toArray below meth c H locs 0 0 Q (F0 m 185 ls []) := by
    intro y_1 y_2 y_3 y_4 S H locs ls h hP hD hS hl
    rw [f_Mo_adm_185] at h
    refine lv_iconst (v := 1) hx hb d_Mo_adm_185 (by decide) ?_
    refine lv_goto (tgt := 190) hx hb d_Mo_adm_186 (by decide) ?_
    exact hB_190 y_1 y_2 y_3 y_4 1 S _ _ _ h hP hD hS (lv_sub hl [0, 1, 2, 3, 4] rfl)
  have hB_145 : ∀ (y_1 : Int32) (y_2 : Int32) (y_3 : Int32) (y_4 : Int32) (z_0 : Int32) (S : MS) (H : Heap) (locs : List Loc) (ls : Array Slot), f_Mo_adm_145 K y_1 y_2 y_3 y_4 z_0 S = some (r, S') → va_P (dC, dI) classes (wM M S) H → va_D A (wM M S) → va_S A s.heap H locs → lv_has ls 9 [(0, .ref M.o), (1, .int y_1), (2, .int y_2), (3, .int y_3), (4, .int y_4)] → W p l e ({ frames := 9, cells := 0, slots := 0, locals := 267 }) s m ([.ref M.o, .int p0, .int p1, .int p2] : List Value).toArray below meth c H locs 0 0 Q (F0 m 145 ls [.int z_0]) := by
    intro y_1 y_2 y_3 y_4 z_0 S H locs ls h hP hD hS hl
    rw [f_Mo_adm_145] at h
    refine lv_istore (lv' := [(5, .int z_0), (0, .ref M.o), (1, .int y_1), (2, .int y_2), (3, .int y_3), (4, .int y_4)]) hx hb d_Mo_adm_145 hl (by decide) rfl (fun ls hl => ?_)
    refine lv_aload_n hx hb d_Mo_adm_147 rfl (lv_at hl 1 rfl) ?_
    refine va_get (D := (dC, dI)) (ci := 12) (v := .int S.v_met) (C := R_Mo) (T := F_Mo) (N := 66) hx hb hts (fun w h => u_Mq_Mo w (i_Mo w h)) hown hK hP 0 rfl rfl 40 (by decide) (hts _ (u_Mq_Mo _ k_Mo_47)) (fun _ h9 => h9) rfl d_Mo_adm_148 ?_
    refine lv_if_le (tgt := 195) hx hb d_Mo_adm_151 (by decide) (fun c_23 => ?_) (fun c_23 => ?_)
    · have h := lf_t h c_23
      refine lv_aload_n hx hb d_Mo_adm_195 rfl (lv_at hl 1 rfl) ?_
      refine lv_iload_n hx hb d_Mo_adm_196 rfl (lv_at hl 2 rfl) ?_
      obtain ⟨S_24, hc_24, h⟩ := lf_bE h
      have hFc := lx_free hD hS hA
      refine va_callv (va_runV (As := [.int y_1]) (rest := []) ⟨hx, hb, hml, hown, hts⟩ (l_Mo_shown l dC dI X _ hc_24) (cwV 1 hts (gwV good_Mq (u_Mq_Mo _ k_Mo_187) (u_Mq_Mo _ k_Mo_188) (u_Mq_Mo _ k_Mo_501) (u_Mq_Mo _ k_Mo_0) (wcs (u_Mq_Mo _ k_Mo_189) (fun _ h => h))) rfl rfl rfl (by decide +kernel) ⟨Nat.le_of_ble_eq_true rfl, Nat.le_of_ble_eq_true rfl⟩) (pv_ofE (X.same _) (fun U z1 z2 => X.mono _ _ U hFc (hEw _ _ hS U z1 z2)) hP hK hD (va_recv hK hP (ci := 12) (q0 := 0) rfl rfl)) rfl rfl hl.1 rfl (lv_room (Nat.le_of_ble_eq_true rfl)) d_Mo_adm_197 ⟨by decide, by decide⟩) hS (fun q _ h => hFc q h) hFc (fun u t H locs ht hvm hw hB hz1 hk1 hS => ?_)
      obtain ⟨hP, -, hD⟩ := hB
      rw [ht] at hP
      have hD := lx_dj hD hFc
      exact hB_200 y_1 y_2 y_3 y_4 z_0 S_24 _ _ _ h hP hD hS (lv_sub hl [1, 2, 3, 4, 5, 0] rfl)
    · have h := lf_f h c_23
      refine lv_iload hx hb d_Mo_adm_154 (lv_at hl 0 rfl) ?_
      refine lv_if_ne (tgt := 185) hx hb d_Mo_adm_156 (by decide) (fun c_25 => ?_) (fun c_25 => ?_)
      · have h := lf_f h c_25
        exact hB_185 y_1 y_2 y_3 y_4 S _ _ _ h hP hD hS (lv_sub hl [1, 2, 3, 4, 5] rfl)
      · have h := lf_t h c_25
        refine lv_aload_n hx hb d_Mo_adm_159 rfl (lv_at hl 1 rfl) ?_
        refine va_get (D := (dC, dI)) (ci := 12) (v := .int S.v_left) (C := R_Mo) (T := F_Mo) (N := 66) hx hb hts (fun w h => u_Mq_Mo w (i_Mo w h)) hown hK hP 0 rfl rfl 41 (by decide) (hts _ (u_Mq_Mo _ k_Mo_48)) (fun _ h9 => h9) rfl d_Mo_adm_160 ?_
        refine lv_if_gt (tgt := 185) hx hb d_Mo_adm_163 (by decide) (fun c_26 => ?_) (fun c_26 => ?_)
        · have h := lf_t h c_26
          exact hB_185 y_1 y_2 y_3 y_4 S _ _ _ h hP hD hS (lv_sub hl [1, 2, 3, 4, 5] rfl)
        · have h := lf_f h c_26
          refine lv_aload_n hx hb d_Mo_adm_166 rfl (lv_at hl 1 rfl) ?_
          refine lv_iload_n hx hb d_Mo_adm_167 rfl (lv_at hl 2 rfl) ?_
          obtain ⟨r_27, S_27, hc_27, h⟩ := lf_cE h
          have hFc := lx_free hD hS hA
          refine va_calli (va_runV (As := [.int y_1]) (rest := []) ⟨hx, hb, hml, hown, hts⟩ (l_Mo_sumOf l dC dI X _ hc_27) (cwV 1 hts (gwV good_Mq (u_Mq_Mo _ k_Mo_171) (u_Mq_Mo _ k_Mo_172) (u_Mq_Mo _ k_Mo_499) (u_Mq_Mo _ k_Mo_0) (wcs (u_Mq_Mo _ k_Mo_173) (fun _ h => h))) rfl rfl rfl (by decide +kernel) ⟨Nat.le_of_ble_eq_true rfl, Nat.le_of_ble_eq_true rfl⟩) (pv_ofE (X.same _) (fun U z1 z2 => X.mono _ _ U hFc (hEw _ _ hS U z1 z2)) hP hK hD (va_recv hK hP (ci := 12) (q0 := 0) rfl rfl)) rfl rfl hl.1 rfl (lv_room (Nat.le_of_ble_eq_true rfl)) d_Mo_adm_168 ⟨by decide, by decide⟩) hS (fun q _ h => hFc q h) hFc (fun r_ u t H locs ht hvm hw hB hz1 hk1 hS => ?_)
          rw [hw]
          obtain ⟨hP, -, hD⟩ := hB
          rw [ht] at hP
          have hD := lx_dj hD hFc
          refine lv_aload_n hx hb d_Mo_adm_171 rfl (lv_at hl 1 rfl) ?_
          refine va_get (D := (dC, dI)) (ci := 12) (v := .int S_27.v_sum) (C := R_Mo) (T := F_Mo) (N := 66) hx hb hts (fun w h => u_Mq_Mo w (i_Mo w h)) hown hK hP 0 rfl rfl 42 (by decide) (hts _ (u_Mq_Mo _ k_Mo_49)) (fun _ h9 => h9) rfl d_Mo_adm_172 ?_
          refine lv_icmp_ne (tgt := 185) hx hb d_Mo_adm_175 (by decide) (fun c_28 => ?_) (fun c_28 => ?_)
          · have h := lf_f h c_28
            exact hB_185 y_1 y_2 y_3 y_4 S_27 _ _ _ h hP hD hS (lv_sub hl [1, 2, 3, 4, 5] rfl)
          · have h := lf_t h c_28
            refine lv_aload_n hx hb d_Mo_adm_178 rfl (lv_at hl 1 rfl) ?_
            obtain ⟨r_29, S_29, hc_29, h⟩ := lf_cE h
            have hFc := lx_free hD hS hA
            refine va_calli (va_runV (As := []) (rest := []) ⟨hx, hb, hml, hown, hts⟩ (l_Mo_said l dC dI X _ hc_29) (cwV 0 hts (gwV good_Mq (u_Mq_Mo _ k_Mo_174) (u_Mq_Mo _ k_Mo_175) (u_Mq_Mo _ k_Mo_502) (u_Mq_Mo _ k_Mo_0) (wcs (u_Mq_Mo _ k_Mo_176) (fun _ h => h))) rfl rfl rfl (by decide +kernel) ⟨Nat.le_of_ble_eq_true rfl, Nat.le_of_ble_eq_true rfl⟩) (pv_ofE (X.same _) (fun U z1 z2 => X.mono _ _ U hFc (hEw _ _ hS U z1 z2)) hP hK hD (va_recv hK hP (ci := 12) (q0 := 0) rfl rfl)) rfl rfl hl.1 rfl (lv_room (Nat.le_of_ble_eq_true rfl)) d_Mo_adm_179 ⟨by decide, by decide⟩) hS (fun q _ h => hFc q h) hFc (fun r_ u t H locs ht hvm hw hB hz1 hk1 hS => ?_)
            rw [hw]
            obtain ⟨hP, -, hD⟩ := hB
            rw [ht] at hP
            have hD := lx_dj hD hFc
            refine lv_if_ne (tgt := 189) hx hb d_Mo_adm_182 (by decide) (fun c_30 => ?_) (fun c_30 => ?_)
            · have h := lf_f h c_30
              refine lv_iconst (v := 0) hx hb d_Mo_adm_189 (by decide) ?_
              exact hB_190 y_1 y_2 y_3 y_4 0 S_29 _ _ _ h hP hD hS (lv_sub hl [1, 2, 3, 4, 5] rfl)
            · have h := lf_t h c_30
              exact hB_185 y_1 y_2 y_3 y_4 S_29 _ _ _ h hP hD hS (lv_sub hl [1, 2, 3, 4, 5] rfl)
  have hB_140 : ∀ (y_1 : Int32) (y_2 : Int32) (y_3 : Int32) (y_4 : Int32) (S : MS) (H : Heap) (locs : List Loc) (ls : Array Slot), f_Mo_adm_140 K y_1 y_2 y_3 y_4 S = some (r, S') → va_P (dC, dI) classes (wM M S) H → va_D A (wM M S) → va_S A s.heap H locs → lv_has ls 9 [(0, .ref M.o), (1, .int y_1), (2, .int y_2), (3, .int y_3), (4, .int y_4)] → W p l e ({ frames := 9, cells := 0, slots := 0, locals := 267 }) s m ([.ref M.o, .int p0, .int p1, .int p2] : List Value).toArray below meth c H locs 0 0 Q (F0 m 140 ls []) := by
    intro y_1 y_2 y_3 y_4 S H locs ls h hP hD hS hl
    rw [f_Mo_adm_140] at h
    refine lv_iconst (v := 1) hx hb d_Mo_adm_140 (by decide) ?_
    refine lv_goto (tgt := 145) hx hb d_Mo_adm_141 (by decide) ?_
    exact hB_145 y_1 y_2 y_3 y_4 1 S _ _ _ h hP hD hS (lv_sub hl [0, 1, 2, 3, 4] rfl)
  have hB_144 : ∀ (y_1 : Int32) (y_2 : Int32) (y_3 : Int32) (y_4 : Int32) (S : MS) (H : Heap) (locs : List Loc) (ls : Array Slot), f_Mo_adm_144 K y_1 y_2 y_3 y_4 S = some (r, S') → va_P (dC, dI) classes (wM M S) H → va_D A (wM M S) → va_S A s.heap H locs → lv_has ls 9 [(0, .ref M.o), (1, .int y_1), (2, .int y_2), (3, .int y_3), (4, .int y_4)] → W p l e ({ frames := 9, cells := 0, slots := 0, locals := 267 }) s m ([.ref M.o, .int p0, .int p1, .int p2] : List Value).toArray below meth c H locs 0 0 Q (F0 m 144 ls []) := by
    intro y_1 y_2 y_3 y_4 S H locs ls h hP hD hS hl
    rw [f_Mo_adm_144] at h
    refine lv_iconst (v := 0) hx hb d_Mo_adm_144 (by decide) ?_
    exact hB_145 y_1 y_2 y_3 y_4 0 S _ _ _ h hP hD hS (lv_sub hl [0, 1, 2, 3, 4] rfl)
  rw [f_Mo_adm] at h
  refine lv_aload_n hx hb d_Mo_adm_0 rfl (lv_at hl 0 rfl) ?_
  refine lv_iload_n hx hb d_Mo_adm_1 rfl (lv_at hl 1 rfl) ?_
  refine lv_bipush (v := 11) hx hb d_Mo_adm_2 (by decide) ?_
  refine lv_iadd hx hb d_Mo_adm_4 ?_
  obtain ⟨r_1, S_1, hc_1, h⟩ := lf_cE h
  have hFc := lx_free hD hS hA
  refine va_calli (va_runV (As := [.int (p0 + 11)]) (rest := []) ⟨hx, hb, hml, hown, hts⟩ (l_Mo_one l dC dI X _ hc_1) (cwV 1 hts (gwV good_Mq (u_Mq_Mo _ k_Mo_94) (u_Mq_Mo _ k_Mo_95) (u_Mq_Mo _ k_Mo_475) (u_Mq_Mo _ k_Mo_0) (wcs (u_Mq_Mo _ k_Mo_96) (fun _ h => h))) rfl rfl rfl (by decide +kernel) ⟨Nat.le_of_ble_eq_true rfl, Nat.le_of_ble_eq_true rfl⟩) (pv_ofE (X.same _) (fun U z1 z2 => X.mono _ _ U hFc (hEw _ _ hS U z1 z2)) hP hK hD (va_recv hK hP (ci := 12) (q0 := 0) rfl rfl)) rfl rfl hl.1 rfl (lv_room (Nat.le_of_ble_eq_true rfl)) d_Mo_adm_5 ⟨by decide, by decide⟩) hS (fun q _ h => hFc q h) hFc (fun r_ u t H locs ht hvm hw hB hz1 hk1 hS => ?_)
  rw [hw]
  obtain ⟨hP, -, hD⟩ := hB
  rw [ht] at hP
  have hD := lx_dj hD hFc
  refine lv_istore (lv' := [(4, .int r_1), (0, .ref M.o), (1, .int p0), (2, .int p1), (3, .int p2)]) hx hb d_Mo_adm_8 hl (by decide) rfl (fun ls hl => ?_)
  refine lv_iload hx hb d_Mo_adm_10 (lv_at hl 0 rfl) ?_
  refine lv_bipush (v := 63) hx hb d_Mo_adm_12 (by decide) ?_
  refine lv_icmp_gt (tgt := 25) hx hb d_Mo_adm_14 (by decide) (fun c_2 => ?_) (fun c_2 => ?_)
  · have h := lf_t h c_2
    exact hB_25 S_1 _ _ _ h hP hD hS (lv_sub hl [] rfl)
  · have h := lf_f h c_2
    refine lv_aload_n hx hb d_Mo_adm_17 rfl (lv_at hl 1 rfl) ?_
    refine lv_iload_n hx hb d_Mo_adm_18 rfl (lv_at hl 2 rfl) ?_
    obtain ⟨r_3, S_3, hc_3, h⟩ := lf_cE h
    have hFc := lx_free hD hS hA
    refine va_calli (va_runV (As := [.int p0]) (rest := []) ⟨hx, hb, hml, hown, hts⟩ (l_Mo_areDays l dC dI X _ hc_3) (cwV 1 hts (gwV good_Mq (u_Mq_Mo _ k_Mo_145) (u_Mq_Mo _ k_Mo_146) (u_Mq_Mo _ k_Mo_498) (u_Mq_Mo _ k_Mo_0) (wcs (u_Mq_Mo _ k_Mo_147) (fun _ h => h))) rfl rfl rfl (by decide +kernel) ⟨Nat.le_of_ble_eq_true rfl, Nat.le_of_ble_eq_true rfl⟩) (pv_ofE (X.same _) (fun U z1 z2 => X.mono _ _ U hFc (hEw _ _ hS U z1 z2)) hP hK hD (va_recv hK hP (ci := 12) (q0 := 0) rfl rfl)) rfl rfl hl.1 rfl (lv_room (Nat.le_of_ble_eq_true rfl)) d_Mo_adm_19 ⟨by decide, by decide⟩) hS (fun q _ h => hFc q h) hFc (fun r_ u t H locs ht hvm hw hB hz1 hk1 hS => ?_)
    rw [hw]
    obtain ⟨hP, -, hD⟩ := hB
    rw [ht] at hP
    have hD := lx_dj hD hFc
    refine lv_if_ne (tgt := 27) hx hb d_Mo_adm_22 (by decide) (fun c_4 => ?_) (fun c_4 => ?_)
    · have h := lf_f h c_4
      refine lv_iload hx hb d_Mo_adm_27 (lv_at hl 0 rfl) ?_
      refine lv_bipush (v := 8) hx hb d_Mo_adm_29 (by decide) ?_
      refine lv_iand hx hb d_Mo_adm_31 ?_
      refine lv_if_eq (tgt := 112) hx hb d_Mo_adm_32 (by decide) (fun c_5 => ?_) (fun c_5 => ?_)
      · have h := lf_t h c_5
        refine lv_aload_n hx hb d_Mo_adm_112 rfl (lv_at hl 1 rfl) ?_
        refine lv_iload_n hx hb d_Mo_adm_113 rfl (lv_at hl 2 rfl) ?_
        refine lv_iconst (v := 0) hx hb d_Mo_adm_114 (by decide) ?_
        obtain ⟨r_6, S_6, hc_6, h⟩ := lf_cE h
        have hFc := lx_free hD hS hA
        refine va_calli (va_runV (As := [.int p0, .int 0]) (rest := []) ⟨hx, hb, hml, hown, hts⟩ (l_Mo_isShort l dC dI X _ hc_6) (cwV 2 hts (gwV good_Mq (u_Mq_Mo _ k_Mo_164) (u_Mq_Mo _ k_Mo_165) (u_Mq_Mo _ k_Mo_497) (u_Mq_Mo _ k_Mo_0) (wcs (u_Mq_Mo _ k_Mo_166) (fun _ h => h))) rfl rfl rfl (by decide +kernel) ⟨Nat.le_of_ble_eq_true rfl, Nat.le_of_ble_eq_true rfl⟩) (pv_ofE (X.same _) (fun U z1 z2 => X.mono _ _ U hFc (hEw _ _ hS U z1 z2)) hP hK hD (va_recv hK hP (ci := 12) (q0 := 0) rfl rfl)) rfl rfl hl.1 rfl (lv_room (Nat.le_of_ble_eq_true rfl)) d_Mo_adm_115 ⟨by decide, by decide⟩) hS (fun q _ h => hFc q h) hFc (fun r_ u t H locs ht hvm hw hB hz1 hk1 hS => ?_)
        rw [hw]
        obtain ⟨hP, -, hD⟩ := hB
        rw [ht] at hP
        have hD := lx_dj hD hFc
        refine lv_if_eq (tgt := 140) hx hb d_Mo_adm_118 (by decide) (fun c_7 => ?_) (fun c_7 => ?_)
        · have h := lf_t h c_7
          exact hB_140 p0 p1 p2 r_1 S_6 _ _ _ h hP hD hS (lv_sub hl [1, 2, 3, 4, 0] rfl)
        · have h := lf_f h c_7
          refine lv_iload hx hb d_Mo_adm_121 (lv_at hl 0 rfl) ?_
          refine lv_bipush (v := 16) hx hb d_Mo_adm_123 (by decide) ?_
          refine lv_iand hx hb d_Mo_adm_125 ?_
          refine lv_if_eq (tgt := 144) hx hb d_Mo_adm_126 (by decide) (fun c_8 => ?_) (fun c_8 => ?_)
          · have h := lf_t h c_8
            exact hB_144 p0 p1 p2 r_1 S_6 _ _ _ h hP hD hS (lv_sub hl [1, 2, 3, 4, 0] rfl)
          · have h := lf_f h c_8
            refine lv_aload_n hx hb d_Mo_adm_129 rfl (lv_at hl 1 rfl) ?_
            refine lv_iload_n hx hb d_Mo_adm_130 rfl (lv_at hl 2 rfl) ?_
            refine lv_bipush (v := 28) hx hb d_Mo_adm_131 (by decide) ?_
            refine lv_iadd hx hb d_Mo_adm_133 ?_
            obtain ⟨r_9, S_9, hc_9, h⟩ := lf_cE h
            have hFc := lx_free hD hS hA
            refine va_calli (va_runV (As := [.int (p0 + 28)]) (rest := []) ⟨hx, hb, hml, hown, hts⟩ (l_Mo_four l dC dI X _ hc_9) (cwV 1 hts (gwV good_Mq (u_Mq_Mo _ k_Mo_100) (u_Mq_Mo _ k_Mo_101) (u_Mq_Mo _ k_Mo_477) (u_Mq_Mo _ k_Mo_0) (wcs (u_Mq_Mo _ k_Mo_102) (fun _ h => h))) rfl rfl rfl (by decide +kernel) ⟨Nat.le_of_ble_eq_true rfl, Nat.le_of_ble_eq_true rfl⟩) (pv_ofE (X.same _) (fun U z1 z2 => X.mono _ _ U hFc (hEw _ _ hS U z1 z2)) hP hK hD (va_recv hK hP (ci := 12) (q0 := 0) rfl rfl)) rfl rfl hl.1 rfl (lv_room (Nat.le_of_ble_eq_true rfl)) d_Mo_adm_134 ⟨by decide, by decide⟩) hS (fun q _ h => hFc q h) hFc (fun r_ u t H locs ht hvm hw hB hz1 hk1 hS => ?_)
            rw [hw]
            obtain ⟨hP, -, hD⟩ := hB
            rw [ht] at hP
            have hD := lx_dj hD hFc
            refine lv_if_eq (tgt := 144) hx hb d_Mo_adm_137 (by decide) (fun c_10 => ?_) (fun c_10 => ?_)
            · have h := lf_t h c_10
              exact hB_144 p0 p1 p2 r_1 S_9 _ _ _ h hP hD hS (lv_sub hl [1, 2, 3, 4, 0] rfl)
            · have h := lf_f h c_10
              exact hB_140 p0 p1 p2 r_1 S_9 _ _ _ h hP hD hS (lv_sub hl [1, 2, 3, 4, 0] rfl)
      · have h := lf_f h c_5
        refine lv_iload hx hb d_Mo_adm_35 (lv_at hl 0 rfl) ?_
        refine lv_bipush (v := 16) hx hb d_Mo_adm_37 (by decide) ?_
        refine lv_iand hx hb d_Mo_adm_39 ?_
        refine lv_if_ne (tgt := 89) hx hb d_Mo_adm_40 (by decide) (fun c_11 => ?_) (fun c_11 => ?_)
        · have h := lf_f h c_11
          exact hB_89 p0 S_3 _ _ _ h hP hD hS (lv_sub hl [1, 2] rfl)
        · have h := lf_t h c_11
          refine lv_iload_n hx hb d_Mo_adm_43 rfl (lv_at hl 3 rfl) ?_
          refine lv_if_gt (tgt := 89) hx hb d_Mo_adm_44 (by decide) (fun c_12 => ?_) (fun c_12 => ?_)
          · have h := lf_t h c_12
            exact hB_89 p0 S_3 _ _ _ h hP hD hS (lv_sub hl [1, 2] rfl)
          · have h := lf_f h c_12
            refine lv_aload_n hx hb d_Mo_adm_47 rfl (lv_at hl 1 rfl) ?_
            refine va_get (D := (dC, dI)) (ci := 12) (v := .int S_3.v_label) (C := R_Mo) (T := F_Mo) (N := 66) hx hb hts (fun w h => u_Mq_Mo w (i_Mo w h)) hown hK hP 0 rfl rfl 37 (by decide) (hts _ (u_Mq_Mo _ k_Mo_44)) (fun _ h9 => h9) rfl d_Mo_adm_48 ?_
            refine lv_if_ge (tgt := 89) hx hb d_Mo_adm_51 (by decide) (fun c_13 => ?_) (fun c_13 => ?_)
            · have h := lf_t h c_13
              exact hB_89 p0 S_3 _ _ _ h hP hD hS (lv_sub hl [1, 2] rfl)
            · have h := lf_f h c_13
              refine lv_aload_n hx hb d_Mo_adm_54 rfl (lv_at hl 1 rfl) ?_
              refine va_get (D := (dC, dI)) (ci := 12) (v := .int S_3.v_met) (C := R_Mo) (T := F_Mo) (N := 66) hx hb hts (fun w h => u_Mq_Mo w (i_Mo w h)) hown hK hP 0 rfl rfl 40 (by decide) (hts _ (u_Mq_Mo _ k_Mo_47)) (fun _ h9 => h9) rfl d_Mo_adm_55 ?_
              refine lv_if_gt (tgt := 89) hx hb d_Mo_adm_58 (by decide) (fun c_14 => ?_) (fun c_14 => ?_)
              · have h := lf_t h c_14
                exact hB_89 p0 S_3 _ _ _ h hP hD hS (lv_sub hl [1, 2] rfl)
              · have h := lf_f h c_14
                refine lv_aload_n hx hb d_Mo_adm_61 rfl (lv_at hl 1 rfl) ?_
                refine lv_iload_n hx hb d_Mo_adm_62 rfl (lv_at hl 2 rfl) ?_
                obtain ⟨r_15, S_15, hc_15, h⟩ := lf_cE h
                have hFc := lx_free hD hS hA
                refine va_calli (va_runV (As := [.int p0]) (rest := []) ⟨hx, hb, hml, hown, hts⟩ (l_Mo_firstOf l dC dI X _ hc_15) (cwV 1 hts (gwV good_Mq (u_Mq_Mo _ k_Mo_127) (u_Mq_Mo _ k_Mo_128) (u_Mq_Mo _ k_Mo_488) (u_Mq_Mo _ k_Mo_0) (wcs (u_Mq_Mo _ k_Mo_129) (fun _ h => h))) rfl rfl rfl (by decide +kernel) ⟨Nat.le_of_ble_eq_true rfl, Nat.le_of_ble_eq_true rfl⟩) (pv_ofE (X.same _) (fun U z1 z2 => X.mono _ _ U hFc (hEw _ _ hS U z1 z2)) hP hK hD (va_recv hK hP (ci := 12) (q0 := 0) rfl rfl)) rfl rfl hl.1 rfl (lv_room (Nat.le_of_ble_eq_true rfl)) d_Mo_adm_63 ⟨by decide, by decide⟩) hS (fun q _ h => hFc q h) hFc (fun r_ u t H locs ht hvm hw hB hz1 hk1 hS => ?_)
                rw [hw]
                obtain ⟨hP, -, hD⟩ := hB
                rw [ht] at hP
                have hD := lx_dj hD hFc
                refine lv_if_ne (tgt := 89) hx hb d_Mo_adm_66 (by decide) (fun c_16 => ?_) (fun c_16 => ?_)
                · have h := lf_f h c_16
                  exact hB_89 p0 S_15 _ _ _ h hP hD hS (lv_sub hl [1, 2] rfl)
                · have h := lf_t h c_16
                  refine lv_aload_n hx hb d_Mo_adm_69 rfl (lv_at hl 1 rfl) ?_
                  refine lv_iload_n hx hb d_Mo_adm_70 rfl (lv_at hl 2 rfl) ?_
                  refine lv_bipush (v := 28) hx hb d_Mo_adm_71 (by decide) ?_
                  refine lv_iadd hx hb d_Mo_adm_73 ?_
                  obtain ⟨r_17, S_17, hc_17, h⟩ := lf_cE h
                  have hFc := lx_free hD hS hA
                  refine va_calli (va_runV (As := [.int (p0 + 28)]) (rest := []) ⟨hx, hb, hml, hown, hts⟩ (l_Mo_four l dC dI X _ hc_17) (cwV 1 hts (gwV good_Mq (u_Mq_Mo _ k_Mo_100) (u_Mq_Mo _ k_Mo_101) (u_Mq_Mo _ k_Mo_477) (u_Mq_Mo _ k_Mo_0) (wcs (u_Mq_Mo _ k_Mo_102) (fun _ h => h))) rfl rfl rfl (by decide +kernel) ⟨Nat.le_of_ble_eq_true rfl, Nat.le_of_ble_eq_true rfl⟩) (pv_ofE (X.same _) (fun U z1 z2 => X.mono _ _ U hFc (hEw _ _ hS U z1 z2)) hP hK hD (va_recv hK hP (ci := 12) (q0 := 0) rfl rfl)) rfl rfl hl.1 rfl (lv_room (Nat.le_of_ble_eq_true rfl)) d_Mo_adm_74 ⟨by decide, by decide⟩) hS (fun q _ h => hFc q h) hFc (fun r_ u t H locs ht hvm hw hB hz1 hk1 hS => ?_)
                  rw [hw]
                  obtain ⟨hP, -, hD⟩ := hB
                  rw [ht] at hP
                  have hD := lx_dj hD hFc
                  refine lv_if_ne (tgt := 89) hx hb d_Mo_adm_77 (by decide) (fun c_18 => ?_) (fun c_18 => ?_)
                  · have h := lf_f h c_18
                    exact hB_89 p0 S_17 _ _ _ h hP hD hS (lv_sub hl [1, 2] rfl)
                  · have h := lf_t h c_18
                    refine lv_aload_n hx hb d_Mo_adm_80 rfl (lv_at hl 1 rfl) ?_
                    refine lv_iload_n hx hb d_Mo_adm_81 rfl (lv_at hl 2 rfl) ?_
                    refine lv_iconst (v := 1) hx hb d_Mo_adm_82 (by decide) ?_
                    obtain ⟨r_19, S_19, hc_19, h⟩ := lf_cE h
                    have hFc := lx_free hD hS hA
                    refine va_calli (va_runV (As := [.int p0, .int 1]) (rest := []) ⟨hx, hb, hml, hown, hts⟩ (l_Mo_isShort l dC dI X _ hc_19) (cwV 2 hts (gwV good_Mq (u_Mq_Mo _ k_Mo_164) (u_Mq_Mo _ k_Mo_165) (u_Mq_Mo _ k_Mo_497) (u_Mq_Mo _ k_Mo_0) (wcs (u_Mq_Mo _ k_Mo_166) (fun _ h => h))) rfl rfl rfl (by decide +kernel) ⟨Nat.le_of_ble_eq_true rfl, Nat.le_of_ble_eq_true rfl⟩) (pv_ofE (X.same _) (fun U z1 z2 => X.mono _ _ U hFc (hEw _ _ hS U z1 z2)) hP hK hD (va_recv hK hP (ci := 12) (q0 := 0) rfl rfl)) rfl rfl hl.1 rfl (lv_room (Nat.le_of_ble_eq_true rfl)) d_Mo_adm_83 ⟨by decide, by decide⟩) hS (fun q _ h => hFc q h) hFc (fun r_ u t H locs ht hvm hw hB hz1 hk1 hS => ?_)
                    rw [hw]
                    obtain ⟨hP, -, hD⟩ := hB
                    rw [ht] at hP
                    have hD := lx_dj hD hFc
                    refine lv_if_ne (tgt := 93) hx hb d_Mo_adm_86 (by decide) (fun c_20 => ?_) (fun c_20 => ?_)
                    · have h := lf_f h c_20
                      refine lv_iconst (v := 0) hx hb d_Mo_adm_93 (by decide) ?_
                      exact hB_94 p0 0 S_19 _ _ _ h hP hD hS (lv_sub hl [1, 2] rfl)
                    · have h := lf_t h c_20
                      exact hB_89 p0 S_19 _ _ _ h hP hD hS (lv_sub hl [1, 2] rfl)
    · have h := lf_t h c_4
      exact hB_25 S_3 _ _ _ h hP hD hS (lv_sub hl [] rfl)
