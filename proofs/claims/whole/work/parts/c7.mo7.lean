set_option maxHeartbeats 4000000 in
set_option maxRecDepth 100000 in
theorem l_Mo_plan (l : Launch) (dC : Nat → ClassId) (dI : Nat → Nat → Nat) {K : Nat} {M : MA} {E : State → Prop} (X : lx_X l dC dI K M E) (sz : Nat) {S S' : MS} {p0 : Int32} {p1 : Int32} {r : Int32} (h : f_Mo_plan K S p0 p1 = some (r, S')) : Met l y_Mo_plan (.code y_Mo_plan b_Mo_plan 4 (some .int) :: V_Mq) ({ frames := 14, cells := 0, slots := 0, locals := 389 }) (va_Pc [.ref M.o, .int p0, .int p1] (fun U => U.heap.size = sz ∧ at_ (dC, dI) (fun _ => True) (wM M S) (tM M) U ∧ E U)) (va_Qi (fun (r_ : Int32) (u : Unit) => r_ = r) (fun (u : Unit) t => at_ (dC, dI) (va_A (wM M S) sz) (wM M S') (tM M) t) (va_A (wM M S) sz)) 0 0 (va_A (wM M S) sz) := by
  refine Met.ofW (cc := b_Mo_plan) (maxL := 4) (ret := (some .int)) (by decide) rfl ?_
  intro p e s m args below meth c s₁ B hml hv
  obtain ⟨rfl, hsz, ⟨hP, hK, hD0⟩, hE⟩ := hv
  have hx := B.exec
  have hb := B.bytes
  have hr := B.returns
  have hts0 := atoms_spec (ws := .code y_Mo_plan b_Mo_plan 4 (some .int) :: V_Mq) B.pre
  have hts : ∀ w ∈ V_Mq, w.before ([.ref M.o, .int p0, .int p1] : List Value).toArray s = true := fun w h => hts0 w (List.mem_cons_of_mem _ h)
  have hown : s.vm.findClass R_Mo = some m.cls := findClass_of_methodNamed B.named
  subst hsz
  have hD := hD0.self (sz := s.heap.size)
  generalize hAe : va_A (wM M S) s.heap.size = A at hD ⊢
  have hA : ∀ q : Nat, s.heap.size ≤ q → A q := fun q h => by rw [← hAe]; exact Or.inr h
  have hS : va_S A s.heap s.heap [] := va_S.rf
  have hP : va_P (dC, dI) classes (wM M S) s.heap := hP
  have hK : va_K (dC, dI) classes (tM M) s := hK
  have hEw : ∀ (H : Heap) (locs : List Loc), va_S A s.heap H locs → ∀ U : State, U.heap = H → s.WarmedH U.vm → E U := fun H locs hS U hU hW => lx_kept X hE hAe hS hU hW
  have hl := lv_entry ([.ref M.o, .int p0, .int p1]) (n := 4) (Nat.le_of_ble_eq_true rfl)
  rw [lg_entry_eq]
  generalize (lg_sl ([.ref M.o, .int p0, .int p1]) ++ List.replicate (4 - (lg_sl ([.ref M.o, .int p0, .int p1])).length) Slot.unset).toArray = ls at hl ⊢
  have hl : lv_has ls 4 [(0, .ref M.o), (1, .int p0), (2, .int p1)] := hl
  refine qabs (fun Q hQ => ?_)
  have hB_34 : ∀ (S : MS) (H : Heap) (locs : List Loc) (ls : Array Slot), f_Mo_plan_34 K S = some (r, S') → va_P (dC, dI) classes (wM M S) H → va_D A (wM M S) → va_S A s.heap H locs → lv_has ls 4 [] → W p l e ({ frames := 14, cells := 0, slots := 0, locals := 389 }) s m ([.ref M.o, .int p0, .int p1] : List Value).toArray below meth c H locs 0 0 Q (F0 m 34 ls []) := by
    intro S H locs ls h hP hD hS hl
    rw [f_Mo_plan_34] at h
    refine lv_iconst (v := (-1)) hx hb d_Mo_plan_34 (by decide) ?_
    rw [hQ]
    have e1 : ((-1)) = r := congrArg Prod.fst (Option.some.inj h)
    have e2 : S = S' := congrArg Prod.snd (Option.some.inj h)
    have hP := lx_newP e2.symm hP
    have hD := lx_newD e2.symm hD
    exact W.iret (v := ((-1))) hx hb hr (fun t ht hW => ⟨⟨((-1)), (), rfl, e1, by rw [ht]; exact hP, va_K.moved hW.alike hK, hD⟩, hS.F ht⟩) hS.2.2 d_Mo_plan_35
  have hB_50 : ∀ (y_2 : Int32) (y_3 : Int32) (S : MS) (H : Heap) (locs : List Loc) (ls : Array Slot), f_Mo_plan_50 K y_2 y_3 S = some (r, S') → va_P (dC, dI) classes (wM M S) H → va_D A (wM M S) → va_S A s.heap H locs → lv_has ls 4 [(2, .int y_2), (3, .int y_3)] → W p l e ({ frames := 14, cells := 0, slots := 0, locals := 389 }) s m ([.ref M.o, .int p0, .int p1] : List Value).toArray below meth c H locs 0 0 Q (F0 m 50 ls []) := by
    intro y_2 y_3 S H locs ls h hP hD hS hl
    rw [f_Mo_plan_50] at h
    refine lv_iload_n hx hb d_Mo_plan_50 rfl (lv_at hl 0 rfl) ?_
    refine lv_if_ne (tgt := 58) hx hb d_Mo_plan_51 (by decide) (fun c_15 => ?_) (fun c_15 => ?_)
    · have h := lf_f h c_15
      refine lv_iconst (v := (-1)) hx hb d_Mo_plan_58 (by decide) ?_
      rw [hQ]
      have e1 : ((-1)) = r := congrArg Prod.fst (Option.some.inj h)
      have e2 : S = S' := congrArg Prod.snd (Option.some.inj h)
      have hP := lx_newP e2.symm hP
      have hD := lx_newD e2.symm hD
      exact W.iret (v := ((-1))) hx hb hr (fun t ht hW => ⟨⟨((-1)), (), rfl, e1, by rw [ht]; exact hP, va_K.moved hW.alike hK, hD⟩, hS.F ht⟩) hS.2.2 d_Mo_plan_59
    · have h := lf_t h c_15
      refine lv_iload_n hx hb d_Mo_plan_54 rfl (lv_at hl 1 rfl) ?_
      refine lv_goto (tgt := 59) hx hb d_Mo_plan_55 (by decide) ?_
      rw [hQ]
      have e1 : y_3 = r := congrArg Prod.fst (Option.some.inj h)
      have e2 : S = S' := congrArg Prod.snd (Option.some.inj h)
      have hP := lx_newP e2.symm hP
      have hD := lx_newD e2.symm hD
      exact W.iret (v := y_3) hx hb hr (fun t ht hW => ⟨⟨y_3, (), rfl, e1, by rw [ht]; exact hP, va_K.moved hW.alike hK, hD⟩, hS.F ht⟩) hS.2.2 d_Mo_plan_59
  rw [f_Mo_plan] at h
  refine lv_aload_n hx hb d_Mo_plan_0 rfl (lv_at hl 0 rfl) ?_
  refine lv_iconst (v := 0) hx hb d_Mo_plan_1 (by decide) ?_
  refine va_put (D := (dC, dI)) (ci := 12) (v := .int 0) (ty := .int) (C := R_Mo) (T := F_Mo) (N := 66) hx hb hts (fun w h => u_Mq_Mo w (i_Mo w h)) t_Mo t_Mo_ok n_Mo hown hK hP hD hS 0 rfl rfl 6 (by decide) (hts _ (u_Mq_Mo _ k_Mo_13)) (fun _ h9 => h9) rfl (by decide +kernel) rfl rfl (Nat.le_of_ble_eq_true rfl) d_Mo_plan_2 (fun H locs hP hD hS => ?_)
  obtain ⟨S_1, eS_1, h⟩ := lf_lX h
  have hP := lx_newP eS_1 hP
  have hD := lx_newD eS_1 hD
  refine lv_aload_n hx hb d_Mo_plan_5 rfl (lv_at hl 0 rfl) ?_
  obtain ⟨S_2, hc_2, h⟩ := lf_bE h
  have hFc := lx_free hD hS hA
  refine va_callv (va_runV (As := []) (rest := []) ⟨hx, hb, hml, hown, hts⟩ (l_Mo_look l dC dI X _ hc_2) (cwV 0 hts (gwV good_Mq (u_Mq_Mo _ k_Mo_88) (u_Mq_Mo _ k_Mo_89) (u_Mq_Mo _ k_Mo_492) (u_Mq_Mo _ k_Mo_0) (wcs (u_Mq_Mo _ k_Mo_90) (fun _ h => h))) rfl rfl rfl (by decide +kernel) ⟨Nat.le_of_ble_eq_true rfl, Nat.le_of_ble_eq_true rfl⟩) (pv_ofE X.same (hEw _ _ hS) hP hK hD (va_recv hK hP (ci := 12) (q0 := 0) rfl rfl)) rfl rfl hl.1 rfl (lv_room (Nat.le_of_ble_eq_true rfl)) d_Mo_plan_6 ⟨by decide, by decide⟩) hS (fun q _ h => hFc q h) hFc (fun u t H locs ht hvm hw hB hz1 hk1 hS => ?_)
  obtain ⟨hP, -, hD⟩ := hB
  rw [ht] at hP
  have hD := lx_dj hD hFc
  refine lv_aload_n hx hb d_Mo_plan_9 rfl (lv_at hl 0 rfl) ?_
  refine va_get (D := (dC, dI)) (ci := 12) (v := .int S_2.v_turned) (C := R_Mo) (T := F_Mo) (N := 66) hx hb hts (fun w h => u_Mq_Mo w (i_Mo w h)) hown hK hP 0 rfl rfl 9 (by decide) (hts _ (u_Mq_Mo _ k_Mo_16)) (fun _ h9 => h9) rfl d_Mo_plan_10 ?_
  refine lv_if_ne (tgt := 34) hx hb d_Mo_plan_13 (by decide) (fun c_3 => ?_) (fun c_3 => ?_)
  · have h := lf_f h c_3
    exact hB_34 S_2 _ _ _ h hP hD hS (lv_sub hl [] rfl)
  · have h := lf_t h c_3
    refine lv_aload_n hx hb d_Mo_plan_16 rfl (lv_at hl 0 rfl) ?_
    refine va_get (D := (dC, dI)) (ci := 12) (v := .int S_2.v_fault) (C := R_Mo) (T := F_Mo) (N := 66) hx hb hts (fun w h => u_Mq_Mo w (i_Mo w h)) hown hK hP 0 rfl rfl 20 (by decide) (hts _ (u_Mq_Mo _ k_Mo_27)) (fun _ h9 => h9) rfl d_Mo_plan_17 ?_
    refine lv_iconst (v := 1) hx hb d_Mo_plan_20 (by decide) ?_
    refine lv_icmp_eq (tgt := 34) hx hb d_Mo_plan_21 (by decide) (fun c_4 => ?_) (fun c_4 => ?_)
    · have h := lf_t h c_4
      exact hB_34 S_2 _ _ _ h hP hD hS (lv_sub hl [] rfl)
    · have h := lf_f h c_4
      refine lv_iload_n hx hb d_Mo_plan_24 rfl (lv_at hl 2 rfl) ?_
      refine lv_if_lt (tgt := 34) hx hb d_Mo_plan_25 (by decide) (fun c_5 => ?_) (fun c_5 => ?_)
      · have h := lf_t h c_5
        exact hB_34 S_2 _ _ _ h hP hD hS (lv_sub hl [] rfl)
      · have h := lf_f h c_5
        refine lv_iload_n hx hb d_Mo_plan_28 rfl (lv_at hl 2 rfl) ?_
        refine lv_bipush (v := 6) hx hb d_Mo_plan_29 (by decide) ?_
        refine lv_icmp_le (tgt := 36) hx hb d_Mo_plan_31 (by decide) (fun c_6 => ?_) (fun c_6 => ?_)
        · have h := lf_t h c_6
          refine lv_aload_n hx hb d_Mo_plan_36 rfl (lv_at hl 0 rfl) ?_
          refine lv_iload_n hx hb d_Mo_plan_37 rfl (lv_at hl 1 rfl) ?_
          obtain ⟨r_7, S_7, hc_7, h⟩ := lf_cE h
          have hFc := lx_free hD hS hA
          refine va_calli (va_runV (As := [.int p0]) (rest := []) ⟨hx, hb, hml, hown, hts⟩ (l_Mo_refusal l dC dI X _ hc_7) (cwV 1 hts (gwV good_Mq (u_Mq_Mo _ k_Mo_367) (u_Mq_Mo _ k_Mo_368) (u_Mq_Mo _ k_Mo_537) (u_Mq_Mo _ k_Mo_0) (wcs (u_Mq_Mo _ k_Mo_369) (fun _ h => h))) rfl rfl rfl (by decide +kernel) ⟨Nat.le_of_ble_eq_true rfl, Nat.le_of_ble_eq_true rfl⟩) (pv_ofE X.same (hEw _ _ hS) hP hK hD (va_recv hK hP (ci := 12) (q0 := 0) rfl rfl)) rfl rfl hl.1 rfl (lv_room (Nat.le_of_ble_eq_true rfl)) d_Mo_plan_38 ⟨by decide, by decide⟩) hS (fun q _ h => hFc q h) hFc (fun r_ u t H locs ht hvm hw hB hz1 hk1 hS => ?_)
          rw [hw]
          obtain ⟨hP, -, hD⟩ := hB
          rw [ht] at hP
          have hD := lx_dj hD hFc
          refine lv_istore_n (lv' := [(3, .int r_7), (0, .ref M.o), (1, .int p0), (2, .int p1)]) hx hb d_Mo_plan_41 rfl hl (by decide) rfl (fun ls hl => ?_)
          refine lv_iload_n hx hb d_Mo_plan_42 rfl (lv_at hl 3 rfl) ?_
          refine lv_if_eq (tgt := 50) hx hb d_Mo_plan_43 (by decide) (fun c_8 => ?_) (fun c_8 => ?_)
          · have h := lf_t h c_8
            exact hB_50 p1 r_7 S_7 _ _ _ h hP hD hS (lv_sub hl [3, 0] rfl)
          · have h := lf_f h c_8
            refine lv_iload_n hx hb d_Mo_plan_46 rfl (lv_at hl 0 rfl) ?_
            refine lv_if_le (tgt := 60) hx hb d_Mo_plan_47 (by decide) (fun c_9 => ?_) (fun c_9 => ?_)
            · have h := lf_t h c_9
              refine lv_iload_n hx hb d_Mo_plan_60 rfl (lv_at hl 3 rfl) ?_
              refine lv_iconst (v := 1) hx hb d_Mo_plan_61 (by decide) ?_
              refine lv_icmp_ne (tgt := 72) hx hb d_Mo_plan_62 (by decide) (fun c_10 => ?_) (fun c_10 => ?_)
              · have h := lf_f h c_10
                refine lv_iload_n hx hb d_Mo_plan_72 rfl (lv_at hl 3 rfl) ?_
                refine lv_iconst (v := 2) hx hb d_Mo_plan_73 (by decide) ?_
                refine lv_icmp_ne (tgt := 84) hx hb d_Mo_plan_74 (by decide) (fun c_11 => ?_) (fun c_11 => ?_)
                · have h := lf_f h c_11
                  refine lv_iload_n hx hb d_Mo_plan_84 rfl (lv_at hl 3 rfl) ?_
                  refine lv_iconst (v := 3) hx hb d_Mo_plan_85 (by decide) ?_
                  refine lv_icmp_ne (tgt := 96) hx hb d_Mo_plan_86 (by decide) (fun c_12 => ?_) (fun c_12 => ?_)
                  · have h := lf_f h c_12
                    refine lv_iload_n hx hb d_Mo_plan_96 rfl (lv_at hl 3 rfl) ?_
                    refine lv_iconst (v := 4) hx hb d_Mo_plan_97 (by decide) ?_
                    refine lv_icmp_ne (tgt := 108) hx hb d_Mo_plan_98 (by decide) (fun c_13 => ?_) (fun c_13 => ?_)
                    · have h := lf_f h c_13
                      refine lv_iload_n hx hb d_Mo_plan_108 rfl (lv_at hl 3 rfl) ?_
                      refine lv_iconst (v := 5) hx hb d_Mo_plan_109 (by decide) ?_
                      refine lv_icmp_ne (tgt := 120) hx hb d_Mo_plan_110 (by decide) (fun c_14 => ?_) (fun c_14 => ?_)
                      · have h := lf_f h c_14
                        refine lv_aload_n hx hb d_Mo_plan_120 rfl (lv_at hl 1 rfl) ?_
                        refine va_get (D := (dC, dI)) (ci := 12) (v := .int S_7.v_blocks) (C := R_Mo) (T := F_Mo) (N := 66) hx hb hts (fun w h => u_Mq_Mo w (i_Mo w h)) hown hK hP 0 rfl rfl 50 (by decide) (hts _ (u_Mq_Mo _ k_Mo_57)) (fun _ h9 => h9) rfl d_Mo_plan_121 ?_
                        refine lv_iconst (v := 1) hx hb d_Mo_plan_124 (by decide) ?_
                        refine lv_isub hx hb d_Mo_plan_125 ?_
                        refine lv_aload_n hx hb d_Mo_plan_126 rfl (lv_at hl 1 rfl) ?_
                        refine va_get (D := (dC, dI)) (ci := 12) (v := .int S_7.v_fixedBlocks) (C := R_Mo) (T := F_Mo) (N := 66) hx hb hts (fun w h => u_Mq_Mo w (i_Mo w h)) hown hK hP 0 rfl rfl 56 (by decide) (hts _ (u_Mq_Mo _ k_Mo_63)) (fun _ h9 => h9) rfl d_Mo_plan_127 ?_
                        refine lv_isub hx hb d_Mo_plan_130 ?_
                        refine lv_aload_n hx hb d_Mo_plan_131 rfl (lv_at hl 1 rfl) ?_
                        refine va_get (D := (dC, dI)) (ci := 12) (v := .int S_7.v_builds) (C := R_Mo) (T := F_Mo) (N := 66) hx hb hts (fun w h => u_Mq_Mo w (i_Mo w h)) hown hK hP 0 rfl rfl 58 (by decide) (hts _ (u_Mq_Mo _ k_Mo_65)) (fun _ h9 => h9) rfl d_Mo_plan_132 ?_
                        refine lv_isub hx hb d_Mo_plan_135 ?_
                        refine lv_aload_n hx hb d_Mo_plan_136 rfl (lv_at hl 1 rfl) ?_
                        refine va_get (D := (dC, dI)) (ci := 12) (v := .int S_7.v_kept) (C := R_Mo) (T := F_Mo) (N := 66) hx hb hts (fun w h => u_Mq_Mo w (i_Mo w h)) hown hK hP 0 rfl rfl 59 (by decide) (hts _ (u_Mq_Mo _ k_Mo_66)) (fun _ h9 => h9) rfl d_Mo_plan_137 ?_
                        refine lv_isub hx hb d_Mo_plan_140 ?_
                        rw [hQ]
                        have e1 : ((((S_7.v_blocks - 1) - S_7.v_fixedBlocks) - S_7.v_builds) - S_7.v_kept) = r := congrArg Prod.fst (Option.some.inj h)
                        have e2 : S_7 = S' := congrArg Prod.snd (Option.some.inj h)
                        have hP := lx_newP e2.symm hP
                        have hD := lx_newD e2.symm hD
                        exact W.iret (v := ((((S_7.v_blocks - 1) - S_7.v_fixedBlocks) - S_7.v_builds) - S_7.v_kept)) hx hb hr (fun t ht hW => ⟨⟨((((S_7.v_blocks - 1) - S_7.v_fixedBlocks) - S_7.v_builds) - S_7.v_kept), (), rfl, e1, by rw [ht]; exact hP, va_K.moved hW.alike hK, hD⟩, hS.F ht⟩) hS.2.2 d_Mo_plan_141
                      · have h := lf_t h c_14
                        refine lv_aload_n hx hb d_Mo_plan_113 rfl (lv_at hl 1 rfl) ?_
                        refine va_get (D := (dC, dI)) (ci := 12) (v := .int S_7.v_builds) (C := R_Mo) (T := F_Mo) (N := 66) hx hb hts (fun w h => u_Mq_Mo w (i_Mo w h)) hown hK hP 0 rfl rfl 58 (by decide) (hts _ (u_Mq_Mo _ k_Mo_65)) (fun _ h9 => h9) rfl d_Mo_plan_114 ?_
                        refine lv_goto (tgt := 141) hx hb d_Mo_plan_117 (by decide) ?_
                        rw [hQ]
                        have e1 : S_7.v_builds = r := congrArg Prod.fst (Option.some.inj h)
                        have e2 : S_7 = S' := congrArg Prod.snd (Option.some.inj h)
                        have hP := lx_newP e2.symm hP
                        have hD := lx_newD e2.symm hD
                        exact W.iret (v := S_7.v_builds) hx hb hr (fun t ht hW => ⟨⟨S_7.v_builds, (), rfl, e1, by rw [ht]; exact hP, va_K.moved hW.alike hK, hD⟩, hS.F ht⟩) hS.2.2 d_Mo_plan_141
                    · have h := lf_t h c_13
                      refine lv_aload_n hx hb d_Mo_plan_101 rfl (lv_at hl 1 rfl) ?_
                      refine va_get (D := (dC, dI)) (ci := 12) (v := .int S_7.v_moves) (C := R_Mo) (T := F_Mo) (N := 66) hx hb hts (fun w h => u_Mq_Mo w (i_Mo w h)) hown hK hP 0 rfl rfl 57 (by decide) (hts _ (u_Mq_Mo _ k_Mo_64)) (fun _ h9 => h9) rfl d_Mo_plan_102 ?_
                      refine lv_goto (tgt := 141) hx hb d_Mo_plan_105 (by decide) ?_
                      rw [hQ]
                      have e1 : S_7.v_moves = r := congrArg Prod.fst (Option.some.inj h)
                      have e2 : S_7 = S' := congrArg Prod.snd (Option.some.inj h)
                      have hP := lx_newP e2.symm hP
                      have hD := lx_newD e2.symm hD
                      exact W.iret (v := S_7.v_moves) hx hb hr (fun t ht hW => ⟨⟨S_7.v_moves, (), rfl, e1, by rw [ht]; exact hP, va_K.moved hW.alike hK, hD⟩, hS.F ht⟩) hS.2.2 d_Mo_plan_141
                  · have h := lf_t h c_12
                    refine lv_aload_n hx hb d_Mo_plan_89 rfl (lv_at hl 1 rfl) ?_
                    refine va_get (D := (dC, dI)) (ci := 12) (v := .int S_7.v_fixedBlocks) (C := R_Mo) (T := F_Mo) (N := 66) hx hb hts (fun w h => u_Mq_Mo w (i_Mo w h)) hown hK hP 0 rfl rfl 56 (by decide) (hts _ (u_Mq_Mo _ k_Mo_63)) (fun _ h9 => h9) rfl d_Mo_plan_90 ?_
                    refine lv_goto (tgt := 141) hx hb d_Mo_plan_93 (by decide) ?_
                    rw [hQ]
                    have e1 : S_7.v_fixedBlocks = r := congrArg Prod.fst (Option.some.inj h)
                    have e2 : S_7 = S' := congrArg Prod.snd (Option.some.inj h)
                    have hP := lx_newP e2.symm hP
                    have hD := lx_newD e2.symm hD
                    exact W.iret (v := S_7.v_fixedBlocks) hx hb hr (fun t ht hW => ⟨⟨S_7.v_fixedBlocks, (), rfl, e1, by rw [ht]; exact hP, va_K.moved hW.alike hK, hD⟩, hS.F ht⟩) hS.2.2 d_Mo_plan_141
                · have h := lf_t h c_11
                  refine lv_aload_n hx hb d_Mo_plan_77 rfl (lv_at hl 1 rfl) ?_
                  refine va_get (D := (dC, dI)) (ci := 12) (v := .int S_7.v_inodes) (C := R_Mo) (T := F_Mo) (N := 66) hx hb hts (fun w h => u_Mq_Mo w (i_Mo w h)) hown hK hP 0 rfl rfl 48 (by decide) (hts _ (u_Mq_Mo _ k_Mo_55)) (fun _ h9 => h9) rfl d_Mo_plan_78 ?_
                  refine lv_goto (tgt := 141) hx hb d_Mo_plan_81 (by decide) ?_
                  rw [hQ]
                  have e1 : S_7.v_inodes = r := congrArg Prod.fst (Option.some.inj h)
                  have e2 : S_7 = S' := congrArg Prod.snd (Option.some.inj h)
                  have hP := lx_newP e2.symm hP
                  have hD := lx_newD e2.symm hD
                  exact W.iret (v := S_7.v_inodes) hx hb hr (fun t ht hW => ⟨⟨S_7.v_inodes, (), rfl, e1, by rw [ht]; exact hP, va_K.moved hW.alike hK, hD⟩, hS.F ht⟩) hS.2.2 d_Mo_plan_141
              · have h := lf_t h c_10
                refine lv_aload_n hx hb d_Mo_plan_65 rfl (lv_at hl 1 rfl) ?_
                refine va_get (D := (dC, dI)) (ci := 12) (v := .int S_7.v_groups) (C := R_Mo) (T := F_Mo) (N := 66) hx hb hts (fun w h => u_Mq_Mo w (i_Mo w h)) hown hK hP 0 rfl rfl 46 (by decide) (hts _ (u_Mq_Mo _ k_Mo_53)) (fun _ h9 => h9) rfl d_Mo_plan_66 ?_
                refine lv_goto (tgt := 141) hx hb d_Mo_plan_69 (by decide) ?_
                rw [hQ]
                have e1 : S_7.v_groups = r := congrArg Prod.fst (Option.some.inj h)
                have e2 : S_7 = S' := congrArg Prod.snd (Option.some.inj h)
                have hP := lx_newP e2.symm hP
                have hD := lx_newD e2.symm hD
                exact W.iret (v := S_7.v_groups) hx hb hr (fun t ht hW => ⟨⟨S_7.v_groups, (), rfl, e1, by rw [ht]; exact hP, va_K.moved hW.alike hK, hD⟩, hS.F ht⟩) hS.2.2 d_Mo_plan_141
            · have h := lf_f h c_9
              exact hB_50 p1 r_7 S_7 _ _ _ h hP hD hS (lv_sub hl [3, 0] rfl)
        · have h := lf_f h c_6
          exact hB_34 S_2 _ _ _ h hP hD hS (lv_sub hl [] rfl)
set_option maxHeartbeats 4000000 in
set_option maxRecDepth 100000 in
theorem l_Mo_target (l : Launch) (dC : Nat → ClassId) (dI : Nat → Nat → Nat) {K : Nat} {M : MA} {E : State → Prop} (X : lx_X l dC dI K M E) (sz : Nat) {S S' : MS} {p0 : Int32} {p1 : Int32} {r : Int32} (h : f_Mo_target K S p0 p1 = some (r, S')) : Met l y_Mo_target (.code y_Mo_target b_Mo_target 3 (some .int) :: V_Mq) ({ frames := 14, cells := 0, slots := 0, locals := 389 }) (va_Pc [.ref M.o, .int p0, .int p1] (fun U => U.heap.size = sz ∧ at_ (dC, dI) (fun _ => True) (wM M S) (tM M) U ∧ E U)) (va_Qi (fun (r_ : Int32) (u : Unit) => r_ = r) (fun (u : Unit) t => at_ (dC, dI) (va_A (wM M S) sz) (wM M S') (tM M) t) (va_A (wM M S) sz)) 0 0 (va_A (wM M S) sz) := by
  refine Met.ofW (cc := b_Mo_target) (maxL := 3) (ret := (some .int)) (by decide) rfl ?_
  intro p e s m args below meth c s₁ B hml hv
  obtain ⟨rfl, hsz, ⟨hP, hK, hD0⟩, hE⟩ := hv
  have hx := B.exec
  have hb := B.bytes
  have hr := B.returns
  have hts0 := atoms_spec (ws := .code y_Mo_target b_Mo_target 3 (some .int) :: V_Mq) B.pre
  have hts : ∀ w ∈ V_Mq, w.before ([.ref M.o, .int p0, .int p1] : List Value).toArray s = true := fun w h => hts0 w (List.mem_cons_of_mem _ h)
  have hown : s.vm.findClass R_Mo = some m.cls := findClass_of_methodNamed B.named
  subst hsz
  have hD := hD0.self (sz := s.heap.size)
  generalize hAe : va_A (wM M S) s.heap.size = A at hD ⊢
  have hA : ∀ q : Nat, s.heap.size ≤ q → A q := fun q h => by rw [← hAe]; exact Or.inr h
  have hS : va_S A s.heap s.heap [] := va_S.rf
  have hP : va_P (dC, dI) classes (wM M S) s.heap := hP
  have hK : va_K (dC, dI) classes (tM M) s := hK
  have hEw : ∀ (H : Heap) (locs : List Loc), va_S A s.heap H locs → ∀ U : State, U.heap = H → s.WarmedH U.vm → E U := fun H locs hS U hU hW => lx_kept X hE hAe hS hU hW
  have hl := lv_entry ([.ref M.o, .int p0, .int p1]) (n := 3) (Nat.le_of_ble_eq_true rfl)
  rw [lg_entry_eq]
  generalize (lg_sl ([.ref M.o, .int p0, .int p1]) ++ List.replicate (3 - (lg_sl ([.ref M.o, .int p0, .int p1])).length) Slot.unset).toArray = ls at hl ⊢
  have hl : lv_has ls 3 [(0, .ref M.o), (1, .int p0), (2, .int p1)] := hl
  refine qabs (fun Q hQ => ?_)
  have hB_32 : ∀ (S : MS) (H : Heap) (locs : List Loc) (ls : Array Slot), f_Mo_target_32 K S = some (r, S') → va_P (dC, dI) classes (wM M S) H → va_D A (wM M S) → va_S A s.heap H locs → lv_has ls 3 [] → W p l e ({ frames := 14, cells := 0, slots := 0, locals := 389 }) s m ([.ref M.o, .int p0, .int p1] : List Value).toArray below meth c H locs 0 0 Q (F0 m 32 ls []) := by
    intro S H locs ls h hP hD hS hl
    rw [f_Mo_target_32] at h
    refine lv_iconst (v := (-1)) hx hb d_Mo_target_32 (by decide) ?_
    rw [hQ]
    have e1 : ((-1)) = r := congrArg Prod.fst (Option.some.inj h)
    have e2 : S = S' := congrArg Prod.snd (Option.some.inj h)
    have hP := lx_newP e2.symm hP
    have hD := lx_newD e2.symm hD
    exact W.iret (v := ((-1))) hx hb hr (fun t ht hW => ⟨⟨((-1)), (), rfl, e1, by rw [ht]; exact hP, va_K.moved hW.alike hK, hD⟩, hS.F ht⟩) hS.2.2 d_Mo_target_33
  rw [f_Mo_target] at h
  refine lv_aload_n hx hb d_Mo_target_0 rfl (lv_at hl 0 rfl) ?_
  refine lv_iconst (v := 0) hx hb d_Mo_target_1 (by decide) ?_
  refine va_put (D := (dC, dI)) (ci := 12) (v := .int 0) (ty := .int) (C := R_Mo) (T := F_Mo) (N := 66) hx hb hts (fun w h => u_Mq_Mo w (i_Mo w h)) t_Mo t_Mo_ok n_Mo hown hK hP hD hS 0 rfl rfl 6 (by decide) (hts _ (u_Mq_Mo _ k_Mo_13)) (fun _ h9 => h9) rfl (by decide +kernel) rfl rfl (Nat.le_of_ble_eq_true rfl) d_Mo_target_2 (fun H locs hP hD hS => ?_)
  obtain ⟨S_1, eS_1, h⟩ := lf_lX h
  have hP := lx_newP eS_1 hP
  have hD := lx_newD eS_1 hD
  refine lv_aload_n hx hb d_Mo_target_5 rfl (lv_at hl 0 rfl) ?_
  obtain ⟨S_2, hc_2, h⟩ := lf_bE h
  have hFc := lx_free hD hS hA
  refine va_callv (va_runV (As := []) (rest := []) ⟨hx, hb, hml, hown, hts⟩ (l_Mo_look l dC dI X _ hc_2) (cwV 0 hts (gwV good_Mq (u_Mq_Mo _ k_Mo_88) (u_Mq_Mo _ k_Mo_89) (u_Mq_Mo _ k_Mo_492) (u_Mq_Mo _ k_Mo_0) (wcs (u_Mq_Mo _ k_Mo_90) (fun _ h => h))) rfl rfl rfl (by decide +kernel) ⟨Nat.le_of_ble_eq_true rfl, Nat.le_of_ble_eq_true rfl⟩) (pv_ofE X.same (hEw _ _ hS) hP hK hD (va_recv hK hP (ci := 12) (q0 := 0) rfl rfl)) rfl rfl hl.1 rfl (lv_room (Nat.le_of_ble_eq_true rfl)) d_Mo_target_6 ⟨by decide, by decide⟩) hS (fun q _ h => hFc q h) hFc (fun u t H locs ht hvm hw hB hz1 hk1 hS => ?_)
  obtain ⟨hP, -, hD⟩ := hB
  rw [ht] at hP
  have hD := lx_dj hD hFc
  refine lv_aload_n hx hb d_Mo_target_9 rfl (lv_at hl 0 rfl) ?_
  refine va_get (D := (dC, dI)) (ci := 12) (v := .int S_2.v_turned) (C := R_Mo) (T := F_Mo) (N := 66) hx hb hts (fun w h => u_Mq_Mo w (i_Mo w h)) hown hK hP 0 rfl rfl 9 (by decide) (hts _ (u_Mq_Mo _ k_Mo_16)) (fun _ h9 => h9) rfl d_Mo_target_10 ?_
  refine lv_if_ne (tgt := 32) hx hb d_Mo_target_13 (by decide) (fun c_3 => ?_) (fun c_3 => ?_)
  · have h := lf_f h c_3
    exact hB_32 S_2 _ _ _ h hP hD hS (lv_sub hl [] rfl)
  · have h := lf_t h c_3
    refine lv_aload_n hx hb d_Mo_target_16 rfl (lv_at hl 0 rfl) ?_
    refine va_get (D := (dC, dI)) (ci := 12) (v := .int S_2.v_fault) (C := R_Mo) (T := F_Mo) (N := 66) hx hb hts (fun w h => u_Mq_Mo w (i_Mo w h)) hown hK hP 0 rfl rfl 20 (by decide) (hts _ (u_Mq_Mo _ k_Mo_27)) (fun _ h9 => h9) rfl d_Mo_target_17 ?_
    refine lv_iconst (v := 1) hx hb d_Mo_target_20 (by decide) ?_
    refine lv_icmp_eq (tgt := 32) hx hb d_Mo_target_21 (by decide) (fun c_4 => ?_) (fun c_4 => ?_)
    · have h := lf_t h c_4
      exact hB_32 S_2 _ _ _ h hP hD hS (lv_sub hl [] rfl)
    · have h := lf_f h c_4
      refine lv_aload_n hx hb d_Mo_target_24 rfl (lv_at hl 0 rfl) ?_
      refine lv_iload_n hx hb d_Mo_target_25 rfl (lv_at hl 1 rfl) ?_
      obtain ⟨r_5, S_5, hc_5, h⟩ := lf_cE h
      have hFc := lx_free hD hS hA
      refine va_calli (va_runV (As := [.int p0]) (rest := []) ⟨hx, hb, hml, hown, hts⟩ (l_Mo_refusal l dC dI X _ hc_5) (cwV 1 hts (gwV good_Mq (u_Mq_Mo _ k_Mo_367) (u_Mq_Mo _ k_Mo_368) (u_Mq_Mo _ k_Mo_537) (u_Mq_Mo _ k_Mo_0) (wcs (u_Mq_Mo _ k_Mo_369) (fun _ h => h))) rfl rfl rfl (by decide +kernel) ⟨Nat.le_of_ble_eq_true rfl, Nat.le_of_ble_eq_true rfl⟩) (pv_ofE X.same (hEw _ _ hS) hP hK hD (va_recv hK hP (ci := 12) (q0 := 0) rfl rfl)) rfl rfl hl.1 rfl (lv_room (Nat.le_of_ble_eq_true rfl)) d_Mo_target_26 ⟨by decide, by decide⟩) hS (fun q _ h => hFc q h) hFc (fun r_ u t H locs ht hvm hw hB hz1 hk1 hS => ?_)
      rw [hw]
      obtain ⟨hP, -, hD⟩ := hB
      rw [ht] at hP
      have hD := lx_dj hD hFc
      refine lv_if_le (tgt := 34) hx hb d_Mo_target_29 (by decide) (fun c_6 => ?_) (fun c_6 => ?_)
      · have h := lf_t h c_6
        refine lv_aload_n hx hb d_Mo_target_34 rfl (lv_at hl 0 rfl) ?_
        refine lv_iload_n hx hb d_Mo_target_35 rfl (lv_at hl 2 rfl) ?_
        obtain ⟨r_7, S_7, hc_7, h⟩ := lf_cE h
        have hFc := lx_free hD hS hA
        refine va_calli (va_runV (As := [.int p1]) (rest := []) ⟨hx, hb, hml, hown, hts⟩ (l_Mo_isCluster l dC dI X _ hc_7) (cwV 1 hts (gwV good_Mq (u_Mq_Mo _ k_Mo_104) (u_Mq_Mo _ k_Mo_105) (u_Mq_Mo _ k_Mo_482) (u_Mq_Mo _ k_Mo_0) (wcs (u_Mq_Mo _ k_Mo_106) (fun _ h => h))) rfl rfl rfl (by decide +kernel) ⟨Nat.le_of_ble_eq_true rfl, Nat.le_of_ble_eq_true rfl⟩) (pv_ofE X.same (hEw _ _ hS) hP hK hD (va_recv hK hP (ci := 12) (q0 := 0) rfl rfl)) rfl rfl hl.1 rfl (lv_room (Nat.le_of_ble_eq_true rfl)) d_Mo_target_36 ⟨by decide, by decide⟩) hS (fun q _ h => hFc q h) hFc (fun r_ u t H locs ht hvm hw hB hz1 hk1 hS => ?_)
        rw [hw]
        obtain ⟨hP, -, hD⟩ := hB
        rw [ht] at hP
        have hD := lx_dj hD hFc
        refine lv_if_eq (tgt := 51) hx hb d_Mo_target_39 (by decide) (fun c_8 => ?_) (fun c_8 => ?_)
        · have h := lf_t h c_8
          refine lv_iconst (v := (-1)) hx hb d_Mo_target_51 (by decide) ?_
          rw [hQ]
          have e1 : ((-1)) = r := congrArg Prod.fst (Option.some.inj h)
          have e2 : S_7 = S' := congrArg Prod.snd (Option.some.inj h)
          have hP := lx_newP e2.symm hP
          have hD := lx_newD e2.symm hD
          exact W.iret (v := ((-1))) hx hb hr (fun t ht hW => ⟨⟨((-1)), (), rfl, e1, by rw [ht]; exact hP, va_K.moved hW.alike hK, hD⟩, hS.F ht⟩) hS.2.2 d_Mo_target_52
        · have h := lf_f h c_8
          refine lv_aload_n hx hb d_Mo_target_42 rfl (lv_at hl 0 rfl) ?_
          refine va_get (D := (dC, dI)) (ci := 12) (v := .ref M.a_moved) (C := R_Mo) (T := F_Mo) (N := 66) hx hb hts (fun w h => u_Mq_Mo w (i_Mo w h)) hown hK hP 0 rfl rfl 53 (by decide) (hts _ (u_Mq_Mo _ k_Mo_60)) (fun _ h9 => h9) rfl d_Mo_target_43 ?_
          refine lv_iload_n hx hb d_Mo_target_46 rfl (lv_at hl 2 rfl) ?_
          obtain ⟨g_9, h⟩ := lf_gE h
          refine va_iald hx hb hK hP 23 22 rfl rfl g_9 d_Mo_target_47 ?_
          refine lv_goto (tgt := 52) hx hb d_Mo_target_48 (by decide) ?_
          rw [hQ]
          have e1 : (S_7.v_moved p1.toNatClampNeg) = r := congrArg Prod.fst (Option.some.inj h)
          have e2 : S_7 = S' := congrArg Prod.snd (Option.some.inj h)
          have hP := lx_newP e2.symm hP
          have hD := lx_newD e2.symm hD
          exact W.iret (v := (S_7.v_moved p1.toNatClampNeg)) hx hb hr (fun t ht hW => ⟨⟨(S_7.v_moved p1.toNatClampNeg), (), rfl, e1, by rw [ht]; exact hP, va_K.moved hW.alike hK, hD⟩, hS.F ht⟩) hS.2.2 d_Mo_target_52
      · have h := lf_f h c_6
        exact hB_32 S_5 _ _ _ h hP hD hS (lv_sub hl [] rfl)
set_option maxHeartbeats 4000000 in
set_option maxRecDepth 100000 in
theorem l_Mo_lay (l : Launch) (dC : Nat → ClassId) (dI : Nat → Nat → Nat) {K : Nat} {M : MA} {E : State → Prop} (X : lx_X l dC dI K M E) (sz : Nat) {S S' : MS} {p0 : Int32} {p1 : Int32} {p2 : Int64} (h : f_Mo_lay K S p0 p1 p2 = some S') : Met l y_Mo_lay (.code y_Mo_lay b_Mo_lay 6 none :: V_Mq) ({ frames := 0, cells := 0, slots := 0, locals := 0 }) (va_Pc [.ref M.o, .int p0, .int p1, .long p2] (fun U => U.heap.size = sz ∧ at_ (dC, dI) (fun _ => True) (wM M S) (tM M) U ∧ E U)) (va_Qv (fun (u : Unit) => True) (fun (u : Unit) t => at_ (dC, dI) (va_A (wM M S) sz) (wM M S') (tM M) t) (va_A (wM M S) sz)) 0 0 (va_A (wM M S) sz) := by
  refine Met.ofW (cc := b_Mo_lay) (maxL := 6) (ret := none) (by decide) rfl ?_
  intro p e s m args below meth c s₁ B hml hv
  obtain ⟨rfl, hsz, ⟨hP, hK, hD0⟩, hE⟩ := hv
  have hx := B.exec
  have hb := B.bytes
  have hr := B.returns
  have hts0 := atoms_spec (ws := .code y_Mo_lay b_Mo_lay 6 none :: V_Mq) B.pre
  have hts : ∀ w ∈ V_Mq, w.before ([.ref M.o, .int p0, .int p1, .long p2] : List Value).toArray s = true := fun w h => hts0 w (List.mem_cons_of_mem _ h)
  have hown : s.vm.findClass R_Mo = some m.cls := findClass_of_methodNamed B.named
  subst hsz
  have hD := hD0.self (sz := s.heap.size)
  generalize hAe : va_A (wM M S) s.heap.size = A at hD ⊢
  have hA : ∀ q : Nat, s.heap.size ≤ q → A q := fun q h => by rw [← hAe]; exact Or.inr h
  have hS : va_S A s.heap s.heap [] := va_S.rf
  have hP : va_P (dC, dI) classes (wM M S) s.heap := hP
  have hK : va_K (dC, dI) classes (tM M) s := hK
  have hEw : ∀ (H : Heap) (locs : List Loc), va_S A s.heap H locs → ∀ U : State, U.heap = H → s.WarmedH U.vm → E U := fun H locs hS U hU hW => lx_kept X hE hAe hS hU hW
  have hl := lv_entry ([.ref M.o, .int p0, .int p1, .long p2]) (n := 6) (Nat.le_of_ble_eq_true rfl)
  rw [lg_entry_eq]
  generalize (lg_sl ([.ref M.o, .int p0, .int p1, .long p2]) ++ List.replicate (6 - (lg_sl ([.ref M.o, .int p0, .int p1, .long p2])).length) Slot.unset).toArray = ls at hl ⊢
  have hl : lv_has ls 6 [(0, .ref M.o), (1, .int p0), (2, .int p1), (3, .long p2)] := hl
  refine qabs (fun Q hQ => ?_)
  have hB_3 : ∀ (k : Nat), ∀ (y_1 : Int32) (y_2 : Int32) (y_3 : Int64) (y_5 : Int32) (S : MS) (H : Heap) (locs : List Loc) (ls : Array Slot), f_Mo_lay_3 K k y_1 y_2 y_3 y_5 S = some S' → va_P (dC, dI) classes (wM M S) H → va_D A (wM M S) → va_S A s.heap H locs → lv_has ls 6 [(0, .ref M.o), (1, .int y_1), (2, .int y_2), (3, .long y_3), (5, .int y_5)] → W p l e ({ frames := 0, cells := 0, slots := 0, locals := 0 }) s m ([.ref M.o, .int p0, .int p1, .long p2] : List Value).toArray below meth c H locs 0 0 Q (F0 m 3 ls []) := by
    intro k
    induction k with
    | zero => intro y_1 y_2 y_3 y_5 S H locs ls h; exact lf_no h
    | succ k hr_3 =>
      intro y_1 y_2 y_3 y_5 S H locs ls h hP hD hS hl
      rw [f_Mo_lay_3] at h
      refine lv_iload hx hb d_Mo_lay_3 (lv_at hl 4 rfl) ?_
      refine lv_iload_n hx hb d_Mo_lay_5 rfl (lv_at hl 2 rfl) ?_
      refine lv_icmp_ge (tgt := 33) hx hb d_Mo_lay_6 (by decide) (fun c_1 => ?_) (fun c_1 => ?_)
      · have h := lf_t h c_1
        rw [hQ]
        have e2 : S = S' := Option.some.inj h
        have hP := lx_newP e2.symm hP
        have hD := lx_newD e2.symm hD
        exact W.vret hx hb hr (fun t ht hW => ⟨⟨(), rfl, trivial, by rw [ht]; exact hP, va_K.moved hW.alike hK, hD⟩, hS.F ht⟩) hS.2.2 d_Mo_lay_33
      · have h := lf_f h c_1
        refine lv_aload_n hx hb d_Mo_lay_9 rfl (lv_at hl 0 rfl) ?_
        refine va_get (D := (dC, dI)) (ci := 12) (v := .ref M.a_fresh) (C := R_Mo) (T := F_Mo) (N := 66) hx hb hts (fun w h => u_Mq_Mo w (i_Mo w h)) hown hK hP 0 rfl rfl 2 (by decide) (hts _ (u_Mq_Mo _ k_Mo_9)) (fun _ h9 => h9) rfl d_Mo_lay_10 ?_
        refine lv_iload_n hx hb d_Mo_lay_13 rfl (lv_at hl 1 rfl) ?_
        refine lv_iload hx hb d_Mo_lay_14 (lv_at hl 4 rfl) ?_
        refine lv_iadd hx hb d_Mo_lay_16 ?_
        refine lv_lload_n hx hb d_Mo_lay_17 rfl (lv_at hl 3 rfl) ?_
        refine lv_bipush (v := 8) hx hb d_Mo_lay_18 (by decide) ?_
        refine lv_iload hx hb d_Mo_lay_20 (lv_at hl 4 rfl) ?_
        refine lv_imul hx hb d_Mo_lay_22 ?_
        refine lv_lshr hx hb d_Mo_lay_23 rfl ?_
        refine lv_l2i hx hb d_Mo_lay_24 rfl ?_
        refine lv_i2b hx hb d_Mo_lay_25 rfl ?_
        obtain ⟨g_2, h⟩ := lf_gE h
        refine va_bast hx hb hK hP hD hS 2 1 rfl rfl g_2 d_Mo_lay_26 (fun H locs hP hD hS => ?_)
        obtain ⟨S_3, eS_3, h⟩ := lf_lX h
        have hP := lx_newP eS_3 hP
        have hD := lx_newD eS_3 hD
        obtain ⟨x_4, ex_4, h⟩ := lf_lX h
        refine lv_iinc (v := x_4) (lv' := [(5, .int x_4), (0, .ref M.o), (1, .int y_1), (2, .int y_2), (3, .long y_3)]) hx hb d_Mo_lay_27 hl (k := 4) rfl (by rw [ex_4]; rfl) (by decide) rfl (fun ls hl => ?_)
        refine lv_goto (tgt := 3) hx hb d_Mo_lay_30 (by decide) ?_
        exact hr_3 y_1 y_2 y_3 x_4 S_3 _ _ _ h hP hD hS (lv_sub hl [1, 2, 3, 4, 0] rfl)
  rw [f_Mo_lay] at h
  refine lv_iconst (v := 0) hx hb d_Mo_lay_0 (by decide) ?_
  refine lv_istore (lv' := [(5, .int 0), (0, .ref M.o), (1, .int p0), (2, .int p1), (3, .long p2)]) hx hb d_Mo_lay_1 hl (by decide) rfl (fun ls hl => ?_)
  exact hB_3 K p0 p1 p2 0 S _ _ _ h hP hD hS (lv_sub hl [1, 2, 3, 4, 0] rfl)
set_option maxHeartbeats 4000000 in
set_option maxRecDepth 100000 in
theorem l_Mo_build (l : Launch) (dC : Nat → ClassId) (dI : Nat → Nat → Nat) {K : Nat} {M : MA} {E : State → Prop} (X : lx_X l dC dI K M E) (sz : Nat) {S S' : MS} {r : Int32} (h : f_Mo_build K S = some (r, S')) : Met l y_Mo_build (.code y_Mo_build b_Mo_build 2 (some .int) :: V_Mq) ({ frames := 0, cells := 0, slots := 0, locals := 0 }) (va_Pc [.ref M.o] (fun U => U.heap.size = sz ∧ at_ (dC, dI) (fun _ => True) (wM M S) (tM M) U ∧ E U)) (va_Qi (fun (r_ : Int32) (u : Unit) => r_ = r) (fun (u : Unit) t => at_ (dC, dI) (va_A (wM M S) sz) (wM M S') (tM M) t) (va_A (wM M S) sz)) 0 0 (va_A (wM M S) sz) := by
  refine Met.ofW (cc := b_Mo_build) (maxL := 2) (ret := (some .int)) (by decide) rfl ?_
  intro p e s m args below meth c s₁ B hml hv
  obtain ⟨rfl, hsz, ⟨hP, hK, hD0⟩, hE⟩ := hv
  have hx := B.exec
  have hb := B.bytes
  have hr := B.returns
  have hts0 := atoms_spec (ws := .code y_Mo_build b_Mo_build 2 (some .int) :: V_Mq) B.pre
  have hts : ∀ w ∈ V_Mq, w.before ([.ref M.o] : List Value).toArray s = true := fun w h => hts0 w (List.mem_cons_of_mem _ h)
  have hown : s.vm.findClass R_Mo = some m.cls := findClass_of_methodNamed B.named
  subst hsz
  have hD := hD0.self (sz := s.heap.size)
  generalize hAe : va_A (wM M S) s.heap.size = A at hD ⊢
  have hA : ∀ q : Nat, s.heap.size ≤ q → A q := fun q h => by rw [← hAe]; exact Or.inr h
  have hS : va_S A s.heap s.heap [] := va_S.rf
  have hP : va_P (dC, dI) classes (wM M S) s.heap := hP
  have hK : va_K (dC, dI) classes (tM M) s := hK
  have hEw : ∀ (H : Heap) (locs : List Loc), va_S A s.heap H locs → ∀ U : State, U.heap = H → s.WarmedH U.vm → E U := fun H locs hS U hU hW => lx_kept X hE hAe hS hU hW
  have hl := lv_entry ([.ref M.o]) (n := 2) (Nat.le_of_ble_eq_true rfl)
  rw [lg_entry_eq]
  generalize (lg_sl ([.ref M.o]) ++ List.replicate (2 - (lg_sl ([.ref M.o])).length) Slot.unset).toArray = ls at hl ⊢
  have hl : lv_has ls 2 [(0, .ref M.o)] := hl
  refine qabs (fun Q hQ => ?_)
  rw [f_Mo_build] at h
  refine lv_aload_n hx hb d_Mo_build_0 rfl (lv_at hl 0 rfl) ?_
  refine va_get (D := (dC, dI)) (ci := 12) (v := .ref M.a_built) (C := R_Mo) (T := F_Mo) (N := 66) hx hb hts (fun w h => u_Mq_Mo w (i_Mo w h)) hown hK hP 0 rfl rfl 55 (by decide) (hts _ (u_Mq_Mo _ k_Mo_62)) (fun _ h9 => h9) rfl d_Mo_build_1 ?_
  refine lv_aload_n hx hb d_Mo_build_4 rfl (lv_at hl 0 rfl) ?_
  refine va_get (D := (dC, dI)) (ci := 12) (v := .int S.v_next) (C := R_Mo) (T := F_Mo) (N := 66) hx hb hts (fun w h => u_Mq_Mo w (i_Mo w h)) hown hK hP 0 rfl rfl 60 (by decide) (hts _ (u_Mq_Mo _ k_Mo_67)) (fun _ h9 => h9) rfl d_Mo_build_5 ?_
  obtain ⟨g_1, h⟩ := lf_gE h
  refine va_iald hx hb hK hP 25 24 rfl rfl g_1 d_Mo_build_8 ?_
  refine lv_topi (fun x_2 ex_2 => ?_)
  have h := lf_lE h ex_2
  refine lv_istore_n (lv' := [(1, .int x_2), (0, .ref M.o)]) hx hb d_Mo_build_9 rfl hl (by decide) rfl (fun ls hl => ?_)
  refine lv_aload_n hx hb d_Mo_build_10 rfl (lv_at hl 1 rfl) ?_
  refine lv_dup hx hb d_Mo_build_11 rfl ?_
  refine va_get (D := (dC, dI)) (ci := 12) (v := .int S.v_next) (C := R_Mo) (T := F_Mo) (N := 66) hx hb hts (fun w h => u_Mq_Mo w (i_Mo w h)) hown hK hP 0 rfl rfl 60 (by decide) (hts _ (u_Mq_Mo _ k_Mo_67)) (fun _ h9 => h9) rfl d_Mo_build_12 ?_
  refine lv_iconst (v := 1) hx hb d_Mo_build_15 (by decide) ?_
  refine lv_iadd hx hb d_Mo_build_16 ?_
  refine va_put (D := (dC, dI)) (ci := 12) (v := .int (S.v_next + 1)) (ty := .int) (C := R_Mo) (T := F_Mo) (N := 66) hx hb hts (fun w h => u_Mq_Mo w (i_Mo w h)) t_Mo t_Mo_ok n_Mo hown hK hP hD hS 0 rfl rfl 60 (by decide) (hts _ (u_Mq_Mo _ k_Mo_67)) (fun _ h9 => h9) rfl (by decide +kernel) rfl rfl (Nat.le_of_ble_eq_true rfl) d_Mo_build_17 (fun H locs hP hD hS => ?_)
  obtain ⟨S_3, eS_3, h⟩ := lf_lX h
  have hP := lx_newP eS_3 hP
  have hD := lx_newD eS_3 hD
  refine lv_aload_n hx hb d_Mo_build_20 rfl (lv_at hl 1 rfl) ?_
  refine va_get (D := (dC, dI)) (ci := 12) (v := .ref M.a_used) (C := R_Mo) (T := F_Mo) (N := 66) hx hb hts (fun w h => u_Mq_Mo w (i_Mo w h)) hown hK hP 0 rfl rfl 52 (by decide) (hts _ (u_Mq_Mo _ k_Mo_59)) (fun _ h9 => h9) rfl d_Mo_build_21 ?_
  refine lv_iload_n hx hb d_Mo_build_24 rfl (lv_at hl 0 rfl) ?_
  refine lv_iconst (v := 1) hx hb d_Mo_build_25 (by decide) ?_
  obtain ⟨g_4, h⟩ := lf_gE h
  refine va_zast hx hb hK hP hD hS 22 21 rfl rfl g_4 d_Mo_build_26 (fun H locs hP hD hS => ?_)
  obtain ⟨S_5, eS_5, h⟩ := lf_lX h
  have hP := lx_newP eS_5 hP
  have hD := lx_newD eS_5 hD
  refine lv_iload_n hx hb d_Mo_build_27 rfl (lv_at hl 0 rfl) ?_
  rw [hQ]
  have e1 : x_2 = r := congrArg Prod.fst (Option.some.inj h)
  have e2 : S_5 = S' := congrArg Prod.snd (Option.some.inj h)
  have hP := lx_newP e2.symm hP
  have hD := lx_newD e2.symm hD
  exact W.iret (v := x_2) hx hb hr (fun t ht hW => ⟨⟨x_2, (), rfl, e1, by rw [ht]; exact hP, va_K.moved hW.alike hK, hD⟩, hS.F ht⟩) hS.2.2 d_Mo_build_28
set_option maxHeartbeats 4000000 in
set_option maxRecDepth 100000 in
theorem l_Mo_inodeAt (l : Launch) (dC : Nat → ClassId) (dI : Nat → Nat → Nat) {K : Nat} {M : MA} {E : State → Prop} (X : lx_X l dC dI K M E) (sz : Nat) {S S' : MS} {p0 : Int32} {r : Int32} (h : f_Mo_inodeAt K S p0 = some (r, S')) : Met l y_Mo_inodeAt (.code y_Mo_inodeAt b_Mo_inodeAt 2 (some .int) :: V_Mq) ({ frames := 1, cells := 0, slots := 0, locals := 21 }) (va_Pc [.ref M.o, .int p0] (fun U => U.heap.size = sz ∧ at_ (dC, dI) (fun _ => True) (wM M S) (tM M) U ∧ E U)) (va_Qi (fun (r_ : Int32) (u : Unit) => r_ = r) (fun (u : Unit) t => at_ (dC, dI) (va_A (wM M S) sz) (wM M S') (tM M) t) (va_A (wM M S) sz)) 0 0 (va_A (wM M S) sz) := by
  refine Met.ofW (cc := b_Mo_inodeAt) (maxL := 2) (ret := (some .int)) (by decide) rfl ?_
  intro p e s m args below meth c s₁ B hml hv
  obtain ⟨rfl, hsz, ⟨hP, hK, hD0⟩, hE⟩ := hv
  have hx := B.exec
  have hb := B.bytes
  have hr := B.returns
  have hts0 := atoms_spec (ws := .code y_Mo_inodeAt b_Mo_inodeAt 2 (some .int) :: V_Mq) B.pre
  have hts : ∀ w ∈ V_Mq, w.before ([.ref M.o, .int p0] : List Value).toArray s = true := fun w h => hts0 w (List.mem_cons_of_mem _ h)
  have hown : s.vm.findClass R_Mo = some m.cls := findClass_of_methodNamed B.named
  subst hsz
  have hD := hD0.self (sz := s.heap.size)
  generalize hAe : va_A (wM M S) s.heap.size = A at hD ⊢
  have hA : ∀ q : Nat, s.heap.size ≤ q → A q := fun q h => by rw [← hAe]; exact Or.inr h
  have hS : va_S A s.heap s.heap [] := va_S.rf
  have hP : va_P (dC, dI) classes (wM M S) s.heap := hP
  have hK : va_K (dC, dI) classes (tM M) s := hK
  have hEw : ∀ (H : Heap) (locs : List Loc), va_S A s.heap H locs → ∀ U : State, U.heap = H → s.WarmedH U.vm → E U := fun H locs hS U hU hW => lx_kept X hE hAe hS hU hW
  have hl := lv_entry ([.ref M.o, .int p0]) (n := 2) (Nat.le_of_ble_eq_true rfl)
  rw [lg_entry_eq]
  generalize (lg_sl ([.ref M.o, .int p0]) ++ List.replicate (2 - (lg_sl ([.ref M.o, .int p0])).length) Slot.unset).toArray = ls at hl ⊢
  have hl : lv_has ls 2 [(0, .ref M.o), (1, .int p0)] := hl
  refine qabs (fun Q hQ => ?_)
  rw [f_Mo_inodeAt] at h
  refine lv_sipush (v := 1024) hx hb d_Mo_inodeAt_0 (by decide) ?_
  refine lv_aload_n hx hb d_Mo_inodeAt_3 rfl (lv_at hl 0 rfl) ?_
  refine lv_iload_n hx hb d_Mo_inodeAt_4 rfl (lv_at hl 1 rfl) ?_
  refine lv_iconst (v := 1) hx hb d_Mo_inodeAt_5 (by decide) ?_
  refine lv_isub hx hb d_Mo_inodeAt_6 ?_
  refine lv_aload_n hx hb d_Mo_inodeAt_7 rfl (lv_at hl 0 rfl) ?_
  refine va_get (D := (dC, dI)) (ci := 12) (v := .int S.v_inodes) (C := R_Mo) (T := F_Mo) (N := 66) hx hb hts (fun w h => u_Mq_Mo w (i_Mo w h)) hown hK hP 0 rfl rfl 48 (by decide) (hts _ (u_Mq_Mo _ k_Mo_55)) (fun _ h9 => h9) rfl d_Mo_inodeAt_8 ?_
  obtain ⟨g_1, h⟩ := lf_gE h
  refine lv_idiv hx hb d_Mo_inodeAt_11 g_1 ?_
  obtain ⟨r_2, S_2, hc_2, h⟩ := lf_cE h
  have hFc := lx_free hD hS hA
  refine va_calli (va_runV (As := [.int ((p0 - 1) / S.v_inodes)]) (rest := [.int 1024]) ⟨hx, hb, hml, hown, hts⟩ (l_Mo_mapOf l dC dI X _ hc_2) (cwV 1 hts (gwV good_Mq (u_Mq_Mo _ k_Mo_376) (u_Mq_Mo _ k_Mo_377) (u_Mq_Mo _ k_Mo_530) (u_Mq_Mo _ k_Mo_0) (wcs (u_Mq_Mo _ k_Mo_378) (fun _ h => h))) rfl rfl rfl (by decide +kernel) ⟨Nat.le_of_ble_eq_true rfl, Nat.le_of_ble_eq_true rfl⟩) (pv_ofE X.same (hEw _ _ hS) hP hK hD (va_recv hK hP (ci := 12) (q0 := 0) rfl rfl)) rfl rfl hl.1 rfl (lv_room (Nat.le_of_ble_eq_true rfl)) d_Mo_inodeAt_12 ⟨by decide, by decide⟩) hS (fun q _ h => hFc q h) hFc (fun r_ u t H locs ht hvm hw hB hz1 hk1 hS => ?_)
  rw [hw]
  obtain ⟨hP, -, hD⟩ := hB
  rw [ht] at hP
  have hD := lx_dj hD hFc
  refine lv_iconst (v := 2) hx hb d_Mo_inodeAt_15 (by decide) ?_
  refine lv_iadd hx hb d_Mo_inodeAt_16 ?_
  refine lv_imul hx hb d_Mo_inodeAt_17 ?_
  refine lv_sipush (v := 128) hx hb d_Mo_inodeAt_18 (by decide) ?_
  refine lv_iload_n hx hb d_Mo_inodeAt_21 rfl (lv_at hl 1 rfl) ?_
  refine lv_iconst (v := 1) hx hb d_Mo_inodeAt_22 (by decide) ?_
  refine lv_isub hx hb d_Mo_inodeAt_23 ?_
  refine lv_aload_n hx hb d_Mo_inodeAt_24 rfl (lv_at hl 0 rfl) ?_
  refine va_get (D := (dC, dI)) (ci := 12) (v := .int S_2.v_inodes) (C := R_Mo) (T := F_Mo) (N := 66) hx hb hts (fun w h => u_Mq_Mo w (i_Mo w h)) hown hK hP 0 rfl rfl 48 (by decide) (hts _ (u_Mq_Mo _ k_Mo_55)) (fun _ h9 => h9) rfl d_Mo_inodeAt_25 ?_
  obtain ⟨g_3, h⟩ := lf_gE h
  refine lv_irem hx hb d_Mo_inodeAt_28 g_3 ?_
  refine lv_imul hx hb d_Mo_inodeAt_29 ?_
  refine lv_iadd hx hb d_Mo_inodeAt_30 ?_
  rw [hQ]
  have e1 : ((1024 * (r_2 + 2)) + (128 * ((p0 - 1) - (p0 - 1) / S_2.v_inodes * S_2.v_inodes))) = r := congrArg Prod.fst (Option.some.inj h)
  have e2 : S_2 = S' := congrArg Prod.snd (Option.some.inj h)
  have hP := lx_newP e2.symm hP
  have hD := lx_newD e2.symm hD
  exact W.iret (v := ((1024 * (r_2 + 2)) + (128 * ((p0 - 1) - (p0 - 1) / S_2.v_inodes * S_2.v_inodes)))) hx hb hr (fun t ht hW => ⟨⟨((1024 * (r_2 + 2)) + (128 * ((p0 - 1) - (p0 - 1) / S_2.v_inodes * S_2.v_inodes))), (), rfl, e1, by rw [ht]; exact hP, va_K.moved hW.alike hK, hD⟩, hS.F ht⟩) hS.2.2 d_Mo_inodeAt_31
set_option maxHeartbeats 4000000 in
set_option maxRecDepth 100000 in
theorem l_Mo_standing (l : Launch) (dC : Nat → ClassId) (dI : Nat → Nat → Nat) {K : Nat} {M : MA} {E : State → Prop} (X : lx_X l dC dI K M E) (sz : Nat) {S S' : MS} {p0 : Int32} {r : Int32} (h : f_Mo_standing K S p0 = some (r, S')) : Met l y_Mo_standing (.code y_Mo_standing b_Mo_standing 3 (some .int) :: V_Mq) ({ frames := 0, cells := 0, slots := 0, locals := 0 }) (va_Pc [.ref M.o, .int p0] (fun U => U.heap.size = sz ∧ at_ (dC, dI) (fun _ => True) (wM M S) (tM M) U ∧ E U)) (va_Qi (fun (r_ : Int32) (u : Unit) => r_ = r) (fun (u : Unit) t => at_ (dC, dI) (va_A (wM M S) sz) (wM M S') (tM M) t) (va_A (wM M S) sz)) 0 0 (va_A (wM M S) sz) := by
  refine Met.ofW (cc := b_Mo_standing) (maxL := 3) (ret := (some .int)) (by decide) rfl ?_
  intro p e s m args below meth c s₁ B hml hv
  obtain ⟨rfl, hsz, ⟨hP, hK, hD0⟩, hE⟩ := hv
  have hx := B.exec
  have hb := B.bytes
  have hr := B.returns
  have hts0 := atoms_spec (ws := .code y_Mo_standing b_Mo_standing 3 (some .int) :: V_Mq) B.pre
  have hts : ∀ w ∈ V_Mq, w.before ([.ref M.o, .int p0] : List Value).toArray s = true := fun w h => hts0 w (List.mem_cons_of_mem _ h)
  have hown : s.vm.findClass R_Mo = some m.cls := findClass_of_methodNamed B.named
  subst hsz
  have hD := hD0.self (sz := s.heap.size)
  generalize hAe : va_A (wM M S) s.heap.size = A at hD ⊢
  have hA : ∀ q : Nat, s.heap.size ≤ q → A q := fun q h => by rw [← hAe]; exact Or.inr h
  have hS : va_S A s.heap s.heap [] := va_S.rf
  have hP : va_P (dC, dI) classes (wM M S) s.heap := hP
  have hK : va_K (dC, dI) classes (tM M) s := hK
  have hEw : ∀ (H : Heap) (locs : List Loc), va_S A s.heap H locs → ∀ U : State, U.heap = H → s.WarmedH U.vm → E U := fun H locs hS U hU hW => lx_kept X hE hAe hS hU hW
  have hl := lv_entry ([.ref M.o, .int p0]) (n := 3) (Nat.le_of_ble_eq_true rfl)
  rw [lg_entry_eq]
  generalize (lg_sl ([.ref M.o, .int p0]) ++ List.replicate (3 - (lg_sl ([.ref M.o, .int p0])).length) Slot.unset).toArray = ls at hl ⊢
  have hl : lv_has ls 3 [(0, .ref M.o), (1, .int p0)] := hl
  refine qabs (fun Q hQ => ?_)
  have hB_39 : ∀ (y_1 : Int32) (z_0 : Int32) (z_1 : Int32) (S : MS) (H : Heap) (locs : List Loc) (ls : Array Slot), f_Mo_standing_39 K y_1 z_0 z_1 S = some (r, S') → va_P (dC, dI) classes (wM M S) H → va_D A (wM M S) → va_S A s.heap H locs → lv_has ls 3 [(0, .ref M.o), (1, .int y_1)] → W p l e ({ frames := 0, cells := 0, slots := 0, locals := 0 }) s m ([.ref M.o, .int p0] : List Value).toArray below meth c H locs 0 0 Q (F0 m 39 ls [.int z_1, .int z_0]) := by
    intro y_1 z_0 z_1 S H locs ls h hP hD hS hl
    rw [f_Mo_standing_39] at h
    refine lv_iconst (v := 2) hx hb d_Mo_standing_39 (by decide) ?_
    refine lv_isub hx hb d_Mo_standing_40 ?_
    refine lv_aload_n hx hb d_Mo_standing_41 rfl (lv_at hl 0 rfl) ?_
    refine va_get (D := (dC, dI)) (ci := 12) (v := .int S.v_c) (C := R_Mo) (T := F_Mo) (N := 66) hx hb hts (fun w h => u_Mq_Mo w (i_Mo w h)) hown hK hP 0 rfl rfl 11 (by decide) (hts _ (u_Mq_Mo _ k_Mo_18)) (fun _ h9 => h9) rfl d_Mo_standing_42 ?_
    refine lv_iconst (v := 2) hx hb d_Mo_standing_45 (by decide) ?_
    refine lv_idiv hx hb d_Mo_standing_46 (by decide) ?_
    refine lv_imul hx hb d_Mo_standing_47 ?_
    refine lv_iadd hx hb d_Mo_standing_48 ?_
    refine lv_iload_n hx hb d_Mo_standing_49 rfl (lv_at hl 1 rfl) ?_
    refine lv_aload_n hx hb d_Mo_standing_50 rfl (lv_at hl 0 rfl) ?_
    refine va_get (D := (dC, dI)) (ci := 12) (v := .int S.v_c) (C := R_Mo) (T := F_Mo) (N := 66) hx hb hts (fun w h => u_Mq_Mo w (i_Mo w h)) hown hK hP 0 rfl rfl 11 (by decide) (hts _ (u_Mq_Mo _ k_Mo_18)) (fun _ h9 => h9) rfl d_Mo_standing_51 ?_
    refine lv_iconst (v := 2) hx hb d_Mo_standing_54 (by decide) ?_
    refine lv_idiv hx hb d_Mo_standing_55 (by decide) ?_
    obtain ⟨g_7, h⟩ := lf_gE h
    refine lv_irem hx hb d_Mo_standing_56 g_7 ?_
    refine lv_iadd hx hb d_Mo_standing_57 ?_
    rw [hQ]
    have e1 : ((z_0 + ((z_1 - 2) * (S.v_c / 2))) + (y_1 - y_1 / (S.v_c / 2) * (S.v_c / 2))) = r := congrArg Prod.fst (Option.some.inj h)
    have e2 : S = S' := congrArg Prod.snd (Option.some.inj h)
    have hP := lx_newP e2.symm hP
    have hD := lx_newD e2.symm hD
    exact W.iret (v := ((z_0 + ((z_1 - 2) * (S.v_c / 2))) + (y_1 - y_1 / (S.v_c / 2) * (S.v_c / 2)))) hx hb hr (fun t ht hW => ⟨⟨((z_0 + ((z_1 - 2) * (S.v_c / 2))) + (y_1 - y_1 / (S.v_c / 2) * (S.v_c / 2))), (), rfl, e1, by rw [ht]; exact hP, va_K.moved hW.alike hK, hD⟩, hS.F ht⟩) hS.2.2 d_Mo_standing_58
  rw [f_Mo_standing] at h
  refine lv_aload_n hx hb d_Mo_standing_0 rfl (lv_at hl 0 rfl) ?_
  refine va_get (D := (dC, dI)) (ci := 12) (v := .ref M.a_chain) (C := R_Mo) (T := F_Mo) (N := 66) hx hb hts (fun w h => u_Mq_Mo w (i_Mo w h)) hown hK hP 0 rfl rfl 33 (by decide) (hts _ (u_Mq_Mo _ k_Mo_40)) (fun _ h9 => h9) rfl d_Mo_standing_1 ?_
  refine lv_iload_n hx hb d_Mo_standing_4 rfl (lv_at hl 1 rfl) ?_
  refine lv_aload_n hx hb d_Mo_standing_5 rfl (lv_at hl 0 rfl) ?_
  refine va_get (D := (dC, dI)) (ci := 12) (v := .int S.v_c) (C := R_Mo) (T := F_Mo) (N := 66) hx hb hts (fun w h => u_Mq_Mo w (i_Mo w h)) hown hK hP 0 rfl rfl 11 (by decide) (hts _ (u_Mq_Mo _ k_Mo_18)) (fun _ h9 => h9) rfl d_Mo_standing_6 ?_
  refine lv_iconst (v := 2) hx hb d_Mo_standing_9 (by decide) ?_
  refine lv_idiv hx hb d_Mo_standing_10 (by decide) ?_
  obtain ⟨g_1, h⟩ := lf_gE h
  refine lv_idiv hx hb d_Mo_standing_11 g_1 ?_
  obtain ⟨g_2, h⟩ := lf_gE h
  refine va_iald hx hb hK hP 15 14 rfl rfl g_2 d_Mo_standing_12 ?_
  refine lv_topi (fun x_3 ex_3 => ?_)
  have h := lf_lE h ex_3
  refine lv_istore_n (lv' := [(2, .int x_3), (0, .ref M.o), (1, .int p0)]) hx hb d_Mo_standing_13 rfl hl (by decide) rfl (fun ls hl => ?_)
  refine lv_aload_n hx hb d_Mo_standing_14 rfl (lv_at hl 1 rfl) ?_
  refine va_get (D := (dC, dI)) (ci := 12) (v := .int S.v_a) (C := R_Mo) (T := F_Mo) (N := 66) hx hb hts (fun w h => u_Mq_Mo w (i_Mo w h)) hown hK hP 0 rfl rfl 16 (by decide) (hts _ (u_Mq_Mo _ k_Mo_23)) (fun _ h9 => h9) rfl d_Mo_standing_15 ?_
  refine lv_iconst (v := 2) hx hb d_Mo_standing_18 (by decide) ?_
  refine lv_idiv hx hb d_Mo_standing_19 (by decide) ?_
  refine lv_aload_n hx hb d_Mo_standing_20 rfl (lv_at hl 1 rfl) ?_
  refine va_get (D := (dC, dI)) (ci := 12) (v := .ref M.a_moved) (C := R_Mo) (T := F_Mo) (N := 66) hx hb hts (fun w h => u_Mq_Mo w (i_Mo w h)) hown hK hP 0 rfl rfl 53 (by decide) (hts _ (u_Mq_Mo _ k_Mo_60)) (fun _ h9 => h9) rfl d_Mo_standing_21 ?_
  refine lv_iload_n hx hb d_Mo_standing_24 rfl (lv_at hl 0 rfl) ?_
  obtain ⟨g_4, h⟩ := lf_gE h
  refine va_iald hx hb hK hP 23 22 rfl rfl g_4 d_Mo_standing_25 ?_
  refine lv_if_ne (tgt := 33) hx hb d_Mo_standing_26 (by decide) (fun c_5 => ?_) (fun c_5 => ?_)
  · have h := lf_f h c_5
    refine lv_aload_n hx hb d_Mo_standing_33 rfl (lv_at hl 1 rfl) ?_
    refine va_get (D := (dC, dI)) (ci := 12) (v := .ref M.a_moved) (C := R_Mo) (T := F_Mo) (N := 66) hx hb hts (fun w h => u_Mq_Mo w (i_Mo w h)) hown hK hP 0 rfl rfl 53 (by decide) (hts _ (u_Mq_Mo _ k_Mo_60)) (fun _ h9 => h9) rfl d_Mo_standing_34 ?_
    refine lv_iload_n hx hb d_Mo_standing_37 rfl (lv_at hl 0 rfl) ?_
    obtain ⟨g_6, h⟩ := lf_gE h
    refine va_iald hx hb hK hP 23 22 rfl rfl g_6 d_Mo_standing_38 ?_
    exact hB_39 p0 (S.v_a / 2) (S.v_moved x_3.toNatClampNeg) S _ _ _ h hP hD hS (lv_sub hl [1, 2] rfl)
  · have h := lf_t h c_5
    refine lv_iload_n hx hb d_Mo_standing_29 rfl (lv_at hl 0 rfl) ?_
    refine lv_goto (tgt := 39) hx hb d_Mo_standing_30 (by decide) ?_
    exact hB_39 p0 (S.v_a / 2) x_3 S _ _ _ h hP hD hS (lv_sub hl [1, 2] rfl)
set_option maxHeartbeats 4000000 in
set_option maxRecDepth 100000 in
theorem l_Mo_copied (l : Launch) (dC : Nat → ClassId) (dI : Nat → Nat → Nat) {K : Nat} {M : MA} {E : State → Prop} (X : lx_X l dC dI K M E) (sz : Nat) {S S' : MS} {p0 : Int32} {r : Int32} (h : f_Mo_copied K S p0 = some (r, S')) : Met l y_Mo_copied (.code y_Mo_copied b_Mo_copied 5 (some .int) :: V_Mq) ({ frames := 1, cells := 0, slots := 0, locals := 22 }) (va_Pc [.ref M.o, .int p0] (fun U => U.heap.size = sz ∧ at_ (dC, dI) (fun _ => True) (wM M S) (tM M) U ∧ E U)) (va_Qi (fun (r_ : Int32) (u : Unit) => r_ = r) (fun (u : Unit) t => at_ (dC, dI) (va_A (wM M S) sz) (wM M S') (tM M) t) (va_A (wM M S) sz)) 0 0 (va_A (wM M S) sz) := by
  refine Met.ofW (cc := b_Mo_copied) (maxL := 5) (ret := (some .int)) (by decide) rfl ?_
  intro p e s m args below meth c s₁ B hml hv
  obtain ⟨rfl, hsz, ⟨hP, hK, hD0⟩, hE⟩ := hv
  have hx := B.exec
  have hb := B.bytes
  have hr := B.returns
  have hts0 := atoms_spec (ws := .code y_Mo_copied b_Mo_copied 5 (some .int) :: V_Mq) B.pre
  have hts : ∀ w ∈ V_Mq, w.before ([.ref M.o, .int p0] : List Value).toArray s = true := fun w h => hts0 w (List.mem_cons_of_mem _ h)
  have hown : s.vm.findClass R_Mo = some m.cls := findClass_of_methodNamed B.named
  subst hsz
  have hD := hD0.self (sz := s.heap.size)
  generalize hAe : va_A (wM M S) s.heap.size = A at hD ⊢
  have hA : ∀ q : Nat, s.heap.size ≤ q → A q := fun q h => by rw [← hAe]; exact Or.inr h
  have hS : va_S A s.heap s.heap [] := va_S.rf
  have hP : va_P (dC, dI) classes (wM M S) s.heap := hP
  have hK : va_K (dC, dI) classes (tM M) s := hK
  have hEw : ∀ (H : Heap) (locs : List Loc), va_S A s.heap H locs → ∀ U : State, U.heap = H → s.WarmedH U.vm → E U := fun H locs hS U hU hW => lx_kept X hE hAe hS hU hW
  have hl := lv_entry ([.ref M.o, .int p0]) (n := 5) (Nat.le_of_ble_eq_true rfl)
  rw [lg_entry_eq]
  generalize (lg_sl ([.ref M.o, .int p0]) ++ List.replicate (5 - (lg_sl ([.ref M.o, .int p0])).length) Slot.unset).toArray = ls at hl ⊢
  have hl : lv_has ls 5 [(0, .ref M.o), (1, .int p0)] := hl
  refine qabs (fun Q hQ => ?_)
  have hB_40 : ∀ (k : Nat), ∀ (y_2 : Int32) (y_3 : Int32) (y_4 : Int32) (S : MS) (H : Heap) (locs : List Loc) (ls : Array Slot), f_Mo_copied_40 K k y_2 y_3 y_4 S = some (r, S') → va_P (dC, dI) classes (wM M S) H → va_D A (wM M S) → va_S A s.heap H locs → lv_has ls 5 [(0, .ref M.o), (2, .int y_2), (3, .int y_3), (4, .int y_4)] → W p l e ({ frames := 1, cells := 0, slots := 0, locals := 22 }) s m ([.ref M.o, .int p0] : List Value).toArray below meth c H locs 0 0 Q (F0 m 40 ls []) := by
    intro k
    induction k with
    | zero => intro y_2 y_3 y_4 S H locs ls h; exact lf_no h
    | succ k hr_40 =>
      intro y_2 y_3 y_4 S H locs ls h hP hD hS hl
      rw [f_Mo_copied_40] at h
      refine lv_iload hx hb d_Mo_copied_40 (lv_at hl 3 rfl) ?_
      refine lv_sipush (v := 1024) hx hb d_Mo_copied_42 (by decide) ?_
      refine lv_icmp_ge (tgt := 76) hx hb d_Mo_copied_45 (by decide) (fun c_7 => ?_) (fun c_7 => ?_)
      · have h := lf_t h c_7
        refine lv_aload_n hx hb d_Mo_copied_76 rfl (lv_at hl 0 rfl) ?_
        refine va_get (D := (dC, dI)) (ci := 12) (v := .ref M.a_used) (C := R_Mo) (T := F_Mo) (N := 66) hx hb hts (fun w h => u_Mq_Mo w (i_Mo w h)) hown hK hP 0 rfl rfl 52 (by decide) (hts _ (u_Mq_Mo _ k_Mo_59)) (fun _ h9 => h9) rfl d_Mo_copied_77 ?_
        refine lv_iload_n hx hb d_Mo_copied_80 rfl (lv_at hl 1 rfl) ?_
        refine lv_iconst (v := 1) hx hb d_Mo_copied_81 (by decide) ?_
        obtain ⟨g_8, h⟩ := lf_gE h
        refine va_zast hx hb hK hP hD hS 22 21 rfl rfl g_8 d_Mo_copied_82 (fun H locs hP hD hS => ?_)
        obtain ⟨S_9, eS_9, h⟩ := lf_lX h
        have hP := lx_newP eS_9 hP
        have hD := lx_newD eS_9 hD
        refine lv_iload_n hx hb d_Mo_copied_83 rfl (lv_at hl 1 rfl) ?_
        rw [hQ]
        have e1 : y_2 = r := congrArg Prod.fst (Option.some.inj h)
        have e2 : S_9 = S' := congrArg Prod.snd (Option.some.inj h)
        have hP := lx_newP e2.symm hP
        have hD := lx_newD e2.symm hD
        exact W.iret (v := y_2) hx hb hr (fun t ht hW => ⟨⟨y_2, (), rfl, e1, by rw [ht]; exact hP, va_K.moved hW.alike hK, hD⟩, hS.F ht⟩) hS.2.2 d_Mo_copied_84
      · have h := lf_f h c_7
        refine lv_aload_n hx hb d_Mo_copied_48 rfl (lv_at hl 0 rfl) ?_
        refine va_get (D := (dC, dI)) (ci := 12) (v := .ref M.a_fresh) (C := R_Mo) (T := F_Mo) (N := 66) hx hb hts (fun w h => u_Mq_Mo w (i_Mo w h)) hown hK hP 0 rfl rfl 2 (by decide) (hts _ (u_Mq_Mo _ k_Mo_9)) (fun _ h9 => h9) rfl d_Mo_copied_49 ?_
        refine lv_sipush (v := 1024) hx hb d_Mo_copied_52 (by decide) ?_
        refine lv_iload_n hx hb d_Mo_copied_55 rfl (lv_at hl 1 rfl) ?_
        refine lv_imul hx hb d_Mo_copied_56 ?_
        refine lv_iload hx hb d_Mo_copied_57 (lv_at hl 3 rfl) ?_
        refine lv_iadd hx hb d_Mo_copied_59 ?_
        refine lv_aload_n hx hb d_Mo_copied_60 rfl (lv_at hl 0 rfl) ?_
        refine va_get (D := (dC, dI)) (ci := 12) (v := .ref M.a_disk) (C := R_Mo) (T := F_Mo) (N := 66) hx hb hts (fun w h => u_Mq_Mo w (i_Mo w h)) hown hK hP 0 rfl rfl 1 (by decide) (hts _ (u_Mq_Mo _ k_Mo_8)) (fun _ h9 => h9) rfl d_Mo_copied_61 ?_
        refine lv_iload_n hx hb d_Mo_copied_64 rfl (lv_at hl 2 rfl) ?_
        refine lv_iload hx hb d_Mo_copied_65 (lv_at hl 3 rfl) ?_
        refine lv_iadd hx hb d_Mo_copied_67 ?_
        obtain ⟨g_10, h⟩ := lf_gE h
        refine va_bald hx hb hK hP 1 0 rfl rfl g_10 d_Mo_copied_68 ?_
        obtain ⟨g_11, h⟩ := lf_gE h
        refine va_bast hx hb hK hP hD hS 2 1 rfl rfl g_11 d_Mo_copied_69 (fun H locs hP hD hS => ?_)
        obtain ⟨S_12, eS_12, h⟩ := lf_lX h
        have hP := lx_newP eS_12 hP
        have hD := lx_newD eS_12 hD
        obtain ⟨x_13, ex_13, h⟩ := lf_lX h
        refine lv_iinc (v := x_13) (lv' := [(4, .int x_13), (0, .ref M.o), (2, .int y_2), (3, .int y_3)]) hx hb d_Mo_copied_70 hl (k := 3) rfl (by rw [ex_13]; rfl) (by decide) rfl (fun ls hl => ?_)
        refine lv_goto (tgt := 40) hx hb d_Mo_copied_73 (by decide) ?_
        exact hr_40 y_2 y_3 x_13 S_12 _ _ _ h hP hD hS (lv_sub hl [1, 2, 3, 0] rfl)
  rw [f_Mo_copied] at h
  refine lv_aload_n hx hb d_Mo_copied_0 rfl (lv_at hl 0 rfl) ?_
  refine lv_iload_n hx hb d_Mo_copied_1 rfl (lv_at hl 1 rfl) ?_
  obtain ⟨r_1, S_1, hc_1, h⟩ := lf_cE h
  have hFc := lx_free hD hS hA
  refine va_calli (va_runV (As := [.int p0]) (rest := []) ⟨hx, hb, hml, hown, hts⟩ (l_Mo_standing l dC dI X _ hc_1) (cwV 1 hts (gwV good_Mq (u_Mq_Mo _ k_Mo_424) (u_Mq_Mo _ k_Mo_425) (u_Mq_Mo _ k_Mo_541) (u_Mq_Mo _ k_Mo_0) (wcs (u_Mq_Mo _ k_Mo_426) (fun _ h => h))) rfl rfl rfl (by decide +kernel) ⟨Nat.le_of_ble_eq_true rfl, Nat.le_of_ble_eq_true rfl⟩) (pv_ofE X.same (hEw _ _ hS) hP hK hD (va_recv hK hP (ci := 12) (q0 := 0) rfl rfl)) rfl rfl hl.1 rfl (lv_room (Nat.le_of_ble_eq_true rfl)) d_Mo_copied_2 ⟨by decide, by decide⟩) hS (fun q _ h => hFc q h) hFc (fun r_ u t H locs ht hvm hw hB hz1 hk1 hS => ?_)
  rw [hw]
  obtain ⟨hP, -, hD⟩ := hB
  rw [ht] at hP
  have hD := lx_dj hD hFc
  refine lv_istore_n (lv' := [(2, .int r_1), (0, .ref M.o), (1, .int p0)]) hx hb d_Mo_copied_5 rfl hl (by decide) rfl (fun ls hl => ?_)
  refine lv_aload_n hx hb d_Mo_copied_6 rfl (lv_at hl 1 rfl) ?_
  refine lv_aload_n hx hb d_Mo_copied_7 rfl (lv_at hl 1 rfl) ?_
  refine va_get (D := (dC, dI)) (ci := 12) (v := .ref M.a_chain) (C := R_Mo) (T := F_Mo) (N := 66) hx hb hts (fun w h => u_Mq_Mo w (i_Mo w h)) hown hK hP 0 rfl rfl 33 (by decide) (hts _ (u_Mq_Mo _ k_Mo_40)) (fun _ h9 => h9) rfl d_Mo_copied_8 ?_
  refine lv_iload_n hx hb d_Mo_copied_11 rfl (lv_at hl 2 rfl) ?_
  refine lv_aload_n hx hb d_Mo_copied_12 rfl (lv_at hl 1 rfl) ?_
  refine va_get (D := (dC, dI)) (ci := 12) (v := .int S_1.v_c) (C := R_Mo) (T := F_Mo) (N := 66) hx hb hts (fun w h => u_Mq_Mo w (i_Mo w h)) hown hK hP 0 rfl rfl 11 (by decide) (hts _ (u_Mq_Mo _ k_Mo_18)) (fun _ h9 => h9) rfl d_Mo_copied_13 ?_
  refine lv_iconst (v := 2) hx hb d_Mo_copied_16 (by decide) ?_
  refine lv_idiv hx hb d_Mo_copied_17 (by decide) ?_
  obtain ⟨g_2, h⟩ := lf_gE h
  refine lv_idiv hx hb d_Mo_copied_18 g_2 ?_
  obtain ⟨g_3, h⟩ := lf_gE h
  refine va_iald hx hb hK hP 15 14 rfl rfl g_3 d_Mo_copied_19 ?_
  obtain ⟨r_4, S_4, hc_4, h⟩ := lf_cE h
  have hFc := lx_free hD hS hA
  refine va_calli (va_runV (As := [.int (S_1.v_chain (p0 / (S_1.v_c / 2)).toNatClampNeg)]) (rest := []) ⟨hx, hb, hml, hown, hts⟩ (l_Mo_place l dC dI X _ hc_4) (cwV 1 hts (gwV good_Mq (u_Mq_Mo _ k_Mo_136) (u_Mq_Mo _ k_Mo_137) (u_Mq_Mo _ k_Mo_483) (u_Mq_Mo _ k_Mo_0) (wcs (u_Mq_Mo _ k_Mo_138) (fun _ h => h))) rfl rfl rfl (by decide +kernel) ⟨Nat.le_of_ble_eq_true rfl, Nat.le_of_ble_eq_true rfl⟩) (pv_ofE X.same (hEw _ _ hS) hP hK hD (va_recv hK hP (ci := 12) (q0 := 0) rfl rfl)) rfl rfl hl.1 rfl (lv_room (Nat.le_of_ble_eq_true rfl)) d_Mo_copied_20 ⟨by decide, by decide⟩) hS (fun q _ h => hFc q h) hFc (fun r_ u t H locs ht hvm hw hB hz1 hk1 hS => ?_)
  rw [hw]
  obtain ⟨hP, -, hD⟩ := hB
  rw [ht] at hP
  have hD := lx_dj hD hFc
  refine lv_sipush (v := 1024) hx hb d_Mo_copied_23 (by decide) ?_
  refine lv_iload_n hx hb d_Mo_copied_26 rfl (lv_at hl 2 rfl) ?_
  refine lv_aload_n hx hb d_Mo_copied_27 rfl (lv_at hl 1 rfl) ?_
  refine va_get (D := (dC, dI)) (ci := 12) (v := .int S_4.v_c) (C := R_Mo) (T := F_Mo) (N := 66) hx hb hts (fun w h => u_Mq_Mo w (i_Mo w h)) hown hK hP 0 rfl rfl 11 (by decide) (hts _ (u_Mq_Mo _ k_Mo_18)) (fun _ h9 => h9) rfl d_Mo_copied_28 ?_
  refine lv_iconst (v := 2) hx hb d_Mo_copied_31 (by decide) ?_
  refine lv_idiv hx hb d_Mo_copied_32 (by decide) ?_
  obtain ⟨g_5, h⟩ := lf_gE h
  refine lv_irem hx hb d_Mo_copied_33 g_5 ?_
  refine lv_imul hx hb d_Mo_copied_34 ?_
  refine lv_iadd hx hb d_Mo_copied_35 ?_
  refine lv_topi (fun x_6 ex_6 => ?_)
  have h := lf_lE h ex_6
  refine lv_istore_n (lv' := [(3, .int x_6), (2, .int r_1), (0, .ref M.o), (1, .int p0)]) hx hb d_Mo_copied_36 rfl hl (by decide) rfl (fun ls hl => ?_)
  refine lv_iconst (v := 0) hx hb d_Mo_copied_37 (by decide) ?_
  refine lv_istore (lv' := [(4, .int 0), (3, .int x_6), (2, .int r_1), (0, .ref M.o), (1, .int p0)]) hx hb d_Mo_copied_38 hl (by decide) rfl (fun ls hl => ?_)
  exact hB_40 K r_1 x_6 0 S_4 _ _ _ h hP hD hS (lv_sub hl [3, 2, 1, 0] rfl)
set_option maxHeartbeats 4000000 in
set_option maxRecDepth 100000 in
theorem l_Mo_inode_record (l : Launch) (dC : Nat → ClassId) (dI : Nat → Nat → Nat) {K : Nat} {M : MA} {E : State → Prop} (X : lx_X l dC dI K M E) (sz : Nat) {S S' : MS} {p0 : Int32} {p1 : Int32} {p2 : Int32} {p3 : Int64} {p4 : Int64} {p5 : Int64} {p6 : Int64} {p8 : Int32} (h : f_Mo_inode_record K S p0 p1 p2 p3 p4 p5 p6 p8 = some S') : Met l y_Mo_inode (.code y_Mo_inode b_Mo_inode 18 none :: V_Mq) ({ frames := 2, cells := 0, slots := 0, locals := 42 }) (va_Pc [.ref M.o, .int p0, .int p1, .int p2, .long p3, .long p4, .long p5, .long p6, .ref M.a_record, .int p8] (fun U => U.heap.size = sz ∧ at_ (dC, dI) (fun _ => True) (wM M S) (tM M) U ∧ E U)) (va_Qv (fun (u : Unit) => True) (fun (u : Unit) t => at_ (dC, dI) (va_A (wM M S) sz) (wM M S') (tM M) t) (va_A (wM M S) sz)) 0 0 (va_A (wM M S) sz) := by
  refine Met.ofW (cc := b_Mo_inode) (maxL := 18) (ret := none) (by decide) rfl ?_
  intro p e s m args below meth c s₁ B hml hv
  obtain ⟨rfl, hsz, ⟨hP, hK, hD0⟩, hE⟩ := hv
  have hx := B.exec
  have hb := B.bytes
  have hr := B.returns
  have hts0 := atoms_spec (ws := .code y_Mo_inode b_Mo_inode 18 none :: V_Mq) B.pre
  have hts : ∀ w ∈ V_Mq, w.before ([.ref M.o, .int p0, .int p1, .int p2, .long p3, .long p4, .long p5, .long p6, .ref M.a_record, .int p8] : List Value).toArray s = true := fun w h => hts0 w (List.mem_cons_of_mem _ h)
  have hown : s.vm.findClass R_Mo = some m.cls := findClass_of_methodNamed B.named
  subst hsz
  have hD := hD0.self (sz := s.heap.size)
  generalize hAe : va_A (wM M S) s.heap.size = A at hD ⊢
  have hA : ∀ q : Nat, s.heap.size ≤ q → A q := fun q h => by rw [← hAe]; exact Or.inr h
  have hS : va_S A s.heap s.heap [] := va_S.rf
  have hP : va_P (dC, dI) classes (wM M S) s.heap := hP
  have hK : va_K (dC, dI) classes (tM M) s := hK
  have hEw : ∀ (H : Heap) (locs : List Loc), va_S A s.heap H locs → ∀ U : State, U.heap = H → s.WarmedH U.vm → E U := fun H locs hS U hU hW => lx_kept X hE hAe hS hU hW
  have hl := lv_entry ([.ref M.o, .int p0, .int p1, .int p2, .long p3, .long p4, .long p5, .long p6, .ref M.a_record, .int p8]) (n := 18) (Nat.le_of_ble_eq_true rfl)
  rw [lg_entry_eq]
  generalize (lg_sl ([.ref M.o, .int p0, .int p1, .int p2, .long p3, .long p4, .long p5, .long p6, .ref M.a_record, .int p8]) ++ List.replicate (18 - (lg_sl ([.ref M.o, .int p0, .int p1, .int p2, .long p3, .long p4, .long p5, .long p6, .ref M.a_record, .int p8])).length) Slot.unset).toArray = ls at hl ⊢
  have hl : lv_has ls 18 [(0, .ref M.o), (1, .int p0), (2, .int p1), (3, .int p2), (4, .long p3), (6, .long p4), (8, .long p5), (10, .long p6), (12, .ref M.a_record), (13, .int p8)] := hl
  refine qabs (fun Q hQ => ?_)
  have hB_304 : ∀ (rec_251 : Int32 → Int32 → Int32 → Int32 → MS → Option (MS)) (hr_251 : ∀ (y_13 : Int32) (y_15 : Int32) (y_16 : Int32) (y_17 : Int32) (S : MS) (H : Heap) (locs : List Loc) (ls : Array Slot), rec_251 y_13 y_15 y_16 y_17 S = some S' → va_P (dC, dI) classes (wM M S) H → va_D A (wM M S) → va_S A s.heap H locs → lv_has ls 18 [(0, .ref M.o), (12, .ref M.a_record), (13, .int y_13), (15, .int y_15), (16, .int y_16), (17, .int y_17)] → W p l e ({ frames := 2, cells := 0, slots := 0, locals := 42 }) s m ([.ref M.o, .int p0, .int p1, .int p2, .long p3, .long p4, .long p5, .long p6, .ref M.a_record, .int p8] : List Value).toArray below meth c H locs 0 0 Q (F0 m 251 ls [])), ∀ (y_13 : Int32) (y_15 : Int32) (y_16 : Int32) (y_17 : Int32) (S : MS) (H : Heap) (locs : List Loc) (ls : Array Slot), f_Mo_inode_record_304 K rec_251 y_13 y_15 y_16 y_17 S = some S' → va_P (dC, dI) classes (wM M S) H → va_D A (wM M S) → va_S A s.heap H locs → lv_has ls 18 [(0, .ref M.o), (12, .ref M.a_record), (13, .int y_13), (15, .int y_15), (16, .int y_16), (17, .int y_17)] → W p l e ({ frames := 2, cells := 0, slots := 0, locals := 42 }) s m ([.ref M.o, .int p0, .int p1, .int p2, .long p3, .long p4, .long p5, .long p6, .ref M.a_record, .int p8] : List Value).toArray below meth c H locs 0 0 Q (F0 m 304 ls []) := by
    intro rec_251 hr_251 y_13 y_15 y_16 y_17 S H locs ls h hP hD hS hl
    rw [f_Mo_inode_record_304] at h
    refine lv_aload_n hx hb d_Mo_inode_304 rfl (lv_at hl 0 rfl) ?_
    refine lv_sipush (v := 1024) hx hb d_Mo_inode_305 (by decide) ?_
    refine lv_iload hx hb d_Mo_inode_308 (lv_at hl 4 rfl) ?_
    refine lv_imul hx hb d_Mo_inode_310 ?_
    refine lv_iload hx hb d_Mo_inode_311 (lv_at hl 5 rfl) ?_
    refine lv_sipush (v := 268) hx hb d_Mo_inode_313 (by decide) ?_
    refine lv_isub hx hb d_Mo_inode_316 ?_
    refine lv_sipush (v := 256) hx hb d_Mo_inode_317 (by decide) ?_
    refine lv_irem hx hb d_Mo_inode_320 (by decide) ?_
    refine lv_iconst (v := 4) hx hb d_Mo_inode_321 (by decide) ?_
    refine lv_imul hx hb d_Mo_inode_322 ?_
    refine lv_iadd hx hb d_Mo_inode_323 ?_
    refine lv_iconst (v := 4) hx hb d_Mo_inode_324 (by decide) ?_
    refine lv_aload hx hb d_Mo_inode_325 (lv_at hl 1 rfl) ?_
    refine lv_iload hx hb d_Mo_inode_327 (lv_at hl 5 rfl) ?_
    obtain ⟨g_30, h⟩ := lf_gE h
    refine va_iald hx hb hK hP 26 25 rfl rfl g_30 d_Mo_inode_329 ?_
    refine lv_i2l hx hb d_Mo_inode_330 rfl ?_
    obtain ⟨S_31, hc_31, h⟩ := lf_bE h
    have hFc := lx_free hD hS hA
    refine va_callv (va_runV (As := [.int ((1024 * y_16) + (((y_17 - 268) - (y_17 - 268) / 256 * 256) * 4)), .int 4, .long ((S.v_record y_17.toNatClampNeg).toInt64)]) (rest := []) ⟨hx, hb, hml, hown, hts⟩ (l_Mo_lay l dC dI X _ hc_31) (cwV 3 hts (gwV good_Mq (u_Mq_Mo _ k_Mo_418) (u_Mq_Mo _ k_Mo_419) (u_Mq_Mo _ k_Mo_538) (u_Mq_Mo _ k_Mo_0) (wcs (u_Mq_Mo _ k_Mo_420) (fun _ h => h))) rfl rfl rfl (by decide +kernel) ⟨Nat.le_of_ble_eq_true rfl, Nat.le_of_ble_eq_true rfl⟩) (pv_ofE X.same (hEw _ _ hS) hP hK hD (va_recv hK hP (ci := 12) (q0 := 0) rfl rfl)) rfl rfl hl.1 rfl (lv_room (Nat.le_of_ble_eq_true rfl)) d_Mo_inode_331 ⟨by decide, by decide⟩) hS (fun q _ h => hFc q h) hFc (fun u t H locs ht hvm hw hB hz1 hk1 hS => ?_)
    obtain ⟨hP, -, hD⟩ := hB
    rw [ht] at hP
    have hD := lx_dj hD hFc
    obtain ⟨x_32, ex_32, h⟩ := lf_lX h
    refine lv_iinc (v := x_32) (lv' := [(17, .int x_32), (0, .ref M.o), (12, .ref M.a_record), (13, .int y_13), (15, .int y_15), (16, .int y_16)]) hx hb d_Mo_inode_334 hl (k := 5) rfl (by rw [ex_32]; rfl) (by decide) rfl (fun ls hl => ?_)
    refine lv_goto (tgt := 251) hx hb d_Mo_inode_337 (by decide) ?_
    exact hr_251 y_13 y_15 y_16 x_32 S_31 _ _ _ h hP hD hS (lv_sub hl [1, 2, 3, 4, 5, 0] rfl)
  have hB_251 : ∀ (k : Nat), ∀ (y_13 : Int32) (y_15 : Int32) (y_16 : Int32) (y_17 : Int32) (S : MS) (H : Heap) (locs : List Loc) (ls : Array Slot), f_Mo_inode_record_251 K k y_13 y_15 y_16 y_17 S = some S' → va_P (dC, dI) classes (wM M S) H → va_D A (wM M S) → va_S A s.heap H locs → lv_has ls 18 [(0, .ref M.o), (12, .ref M.a_record), (13, .int y_13), (15, .int y_15), (16, .int y_16), (17, .int y_17)] → W p l e ({ frames := 2, cells := 0, slots := 0, locals := 42 }) s m ([.ref M.o, .int p0, .int p1, .int p2, .long p3, .long p4, .long p5, .long p6, .ref M.a_record, .int p8] : List Value).toArray below meth c H locs 0 0 Q (F0 m 251 ls []) := by
    intro k
    induction k with
    | zero => intro y_13 y_15 y_16 y_17 S H locs ls h; exact lf_no h
    | succ k hr_251 =>
      intro y_13 y_15 y_16 y_17 S H locs ls h hP hD hS hl
      rw [f_Mo_inode_record_251] at h
      refine lv_iload hx hb d_Mo_inode_251 (lv_at hl 5 rfl) ?_
      refine lv_iload hx hb d_Mo_inode_253 (lv_at hl 2 rfl) ?_
      refine lv_icmp_ge (tgt := 340) hx hb d_Mo_inode_255 (by decide) (fun c_26 => ?_) (fun c_26 => ?_)
      · have h := lf_t h c_26
        rw [hQ]
        have e2 : S = S' := Option.some.inj h
        have hP := lx_newP e2.symm hP
        have hD := lx_newD e2.symm hD
        exact W.vret hx hb hr (fun t ht hW => ⟨⟨(), rfl, trivial, by rw [ht]; exact hP, va_K.moved hW.alike hK, hD⟩, hS.F ht⟩) hS.2.2 d_Mo_inode_340
      · have h := lf_f h c_26
        refine lv_iload hx hb d_Mo_inode_258 (lv_at hl 5 rfl) ?_
        refine lv_sipush (v := 268) hx hb d_Mo_inode_260 (by decide) ?_
        refine lv_isub hx hb d_Mo_inode_263 ?_
        refine lv_sipush (v := 256) hx hb d_Mo_inode_264 (by decide) ?_
        refine lv_irem hx hb d_Mo_inode_267 (by decide) ?_
        refine lv_if_ne (tgt := 304) hx hb d_Mo_inode_268 (by decide) (fun c_27 => ?_) (fun c_27 => ?_)
        · have h := lf_f h c_27
          exact hB_304 _ hr_251 y_13 y_15 y_16 y_17 S _ _ _ h hP hD hS (lv_sub hl [0, 1, 2, 3, 4, 5] rfl)
        · have h := lf_t h c_27
          refine lv_aload_n hx hb d_Mo_inode_271 rfl (lv_at hl 0 rfl) ?_
          obtain ⟨r_28, S_28, hc_28, h⟩ := lf_cE h
          have hFc := lx_free hD hS hA
          refine va_calli (va_runV (As := []) (rest := []) ⟨hx, hb, hml, hown, hts⟩ (l_Mo_build l dC dI X _ hc_28) (cwV 0 hts (gwV good_Mq (u_Mq_Mo _ k_Mo_415) (u_Mq_Mo _ k_Mo_416) (u_Mq_Mo _ k_Mo_539) (u_Mq_Mo _ k_Mo_0) (wcs (u_Mq_Mo _ k_Mo_417) (fun _ h => h))) rfl rfl rfl (by decide +kernel) ⟨Nat.le_of_ble_eq_true rfl, Nat.le_of_ble_eq_true rfl⟩) (pv_ofE X.same (hEw _ _ hS) hP hK hD (va_recv hK hP (ci := 12) (q0 := 0) rfl rfl)) rfl rfl hl.1 rfl (lv_room (Nat.le_of_ble_eq_true rfl)) d_Mo_inode_272 ⟨by decide, by decide⟩) hS (fun q _ h => hFc q h) hFc (fun r_ u t H locs ht hvm hw hB hz1 hk1 hS => ?_)
          rw [hw]
          obtain ⟨hP, -, hD⟩ := hB
          rw [ht] at hP
          have hD := lx_dj hD hFc
          refine lv_istore (lv' := [(16, .int r_28), (0, .ref M.o), (12, .ref M.a_record), (13, .int y_13), (15, .int y_15), (17, .int y_17)]) hx hb d_Mo_inode_275 hl (by decide) rfl (fun ls hl => ?_)
          refine lv_aload_n hx hb d_Mo_inode_277 rfl (lv_at hl 1 rfl) ?_
          refine lv_sipush (v := 1024) hx hb d_Mo_inode_278 (by decide) ?_
          refine lv_iload hx hb d_Mo_inode_281 (lv_at hl 4 rfl) ?_
          refine lv_imul hx hb d_Mo_inode_283 ?_
          refine lv_iload hx hb d_Mo_inode_284 (lv_at hl 5 rfl) ?_
          refine lv_sipush (v := 268) hx hb d_Mo_inode_286 (by decide) ?_
          refine lv_isub hx hb d_Mo_inode_289 ?_
          refine lv_sipush (v := 256) hx hb d_Mo_inode_290 (by decide) ?_
          refine lv_idiv hx hb d_Mo_inode_293 (by decide) ?_
          refine lv_iconst (v := 4) hx hb d_Mo_inode_294 (by decide) ?_
          refine lv_imul hx hb d_Mo_inode_295 ?_
          refine lv_iadd hx hb d_Mo_inode_296 ?_
          refine lv_iconst (v := 4) hx hb d_Mo_inode_297 (by decide) ?_
          refine lv_iload hx hb d_Mo_inode_298 (lv_at hl 0 rfl) ?_
          refine lv_i2l hx hb d_Mo_inode_300 rfl ?_
          obtain ⟨S_29, hc_29, h⟩ := lf_bE h
          have hFc := lx_free hD hS hA
          refine va_callv (va_runV (As := [.int ((1024 * y_15) + (((y_17 - 268) / 256) * 4)), .int 4, .long r_28.toInt64]) (rest := []) ⟨hx, hb, hml, hown, hts⟩ (l_Mo_lay l dC dI X _ hc_29) (cwV 3 hts (gwV good_Mq (u_Mq_Mo _ k_Mo_418) (u_Mq_Mo _ k_Mo_419) (u_Mq_Mo _ k_Mo_538) (u_Mq_Mo _ k_Mo_0) (wcs (u_Mq_Mo _ k_Mo_420) (fun _ h => h))) rfl rfl rfl (by decide +kernel) ⟨Nat.le_of_ble_eq_true rfl, Nat.le_of_ble_eq_true rfl⟩) (pv_ofE X.same (hEw _ _ hS) hP hK hD (va_recv hK hP (ci := 12) (q0 := 0) rfl rfl)) rfl rfl hl.1 rfl (lv_room (Nat.le_of_ble_eq_true rfl)) d_Mo_inode_301 ⟨by decide, by decide⟩) hS (fun q _ h => hFc q h) hFc (fun u t H locs ht hvm hw hB hz1 hk1 hS => ?_)
          obtain ⟨hP, -, hD⟩ := hB
          rw [ht] at hP
          have hD := lx_dj hD hFc
          exact hB_304 _ hr_251 y_13 y_15 r_28 y_17 S_29 _ _ _ h hP hD hS (lv_sub hl [1, 2, 3, 4, 0, 5] rfl)
  have hB_216 : ∀ (y_13 : Int32) (y_14 : Int32) (S : MS) (H : Heap) (locs : List Loc) (ls : Array Slot), f_Mo_inode_record_216 K y_13 y_14 S = some S' → va_P (dC, dI) classes (wM M S) H → va_D A (wM M S) → va_S A s.heap H locs → lv_has ls 18 [(0, .ref M.o), (12, .ref M.a_record), (13, .int y_13), (14, .int y_14)] → W p l e ({ frames := 2, cells := 0, slots := 0, locals := 42 }) s m ([.ref M.o, .int p0, .int p1, .int p2, .long p3, .long p4, .long p5, .long p6, .ref M.a_record, .int p8] : List Value).toArray below meth c H locs 0 0 Q (F0 m 216 ls []) := by
    intro y_13 y_14 S H locs ls h hP hD hS hl
    rw [f_Mo_inode_record_216] at h
    refine lv_iload hx hb d_Mo_inode_216 (lv_at hl 2 rfl) ?_
    refine lv_sipush (v := 268) hx hb d_Mo_inode_218 (by decide) ?_
    refine lv_icmp_le (tgt := 340) hx hb d_Mo_inode_221 (by decide) (fun c_18 => ?_) (fun c_18 => ?_)
    · have h := lf_t h c_18
      rw [hQ]
      have e2 : S = S' := Option.some.inj h
      have hP := lx_newP e2.symm hP
      have hD := lx_newD e2.symm hD
      exact W.vret hx hb hr (fun t ht hW => ⟨⟨(), rfl, trivial, by rw [ht]; exact hP, va_K.moved hW.alike hK, hD⟩, hS.F ht⟩) hS.2.2 d_Mo_inode_340
    · have h := lf_f h c_18
      refine lv_aload_n hx hb d_Mo_inode_224 rfl (lv_at hl 0 rfl) ?_
      obtain ⟨r_19, S_19, hc_19, h⟩ := lf_cE h
      have hFc := lx_free hD hS hA
      refine va_calli (va_runV (As := []) (rest := []) ⟨hx, hb, hml, hown, hts⟩ (l_Mo_build l dC dI X _ hc_19) (cwV 0 hts (gwV good_Mq (u_Mq_Mo _ k_Mo_415) (u_Mq_Mo _ k_Mo_416) (u_Mq_Mo _ k_Mo_539) (u_Mq_Mo _ k_Mo_0) (wcs (u_Mq_Mo _ k_Mo_417) (fun _ h => h))) rfl rfl rfl (by decide +kernel) ⟨Nat.le_of_ble_eq_true rfl, Nat.le_of_ble_eq_true rfl⟩) (pv_ofE X.same (hEw _ _ hS) hP hK hD (va_recv hK hP (ci := 12) (q0 := 0) rfl rfl)) rfl rfl hl.1 rfl (lv_room (Nat.le_of_ble_eq_true rfl)) d_Mo_inode_225 ⟨by decide, by decide⟩) hS (fun q _ h => hFc q h) hFc (fun r_ u t H locs ht hvm hw hB hz1 hk1 hS => ?_)
      rw [hw]
      obtain ⟨hP, -, hD⟩ := hB
      rw [ht] at hP
      have hD := lx_dj hD hFc
      refine lv_istore (lv' := [(15, .int r_19), (0, .ref M.o), (12, .ref M.a_record), (13, .int y_13), (14, .int y_14)]) hx hb d_Mo_inode_228 hl (by decide) rfl (fun ls hl => ?_)
      refine lv_aload_n hx hb d_Mo_inode_230 rfl (lv_at hl 1 rfl) ?_
      refine lv_iload hx hb d_Mo_inode_231 (lv_at hl 4 rfl) ?_
      refine lv_bipush (v := 92) hx hb d_Mo_inode_233 (by decide) ?_
      refine lv_iadd hx hb d_Mo_inode_235 ?_
      refine lv_iconst (v := 4) hx hb d_Mo_inode_236 (by decide) ?_
      refine lv_iload hx hb d_Mo_inode_237 (lv_at hl 0 rfl) ?_
      refine lv_i2l hx hb d_Mo_inode_239 rfl ?_
      obtain ⟨S_20, hc_20, h⟩ := lf_bE h
      have hFc := lx_free hD hS hA
      refine va_callv (va_runV (As := [.int (y_14 + 92), .int 4, .long r_19.toInt64]) (rest := []) ⟨hx, hb, hml, hown, hts⟩ (l_Mo_lay l dC dI X _ hc_20) (cwV 3 hts (gwV good_Mq (u_Mq_Mo _ k_Mo_418) (u_Mq_Mo _ k_Mo_419) (u_Mq_Mo _ k_Mo_538) (u_Mq_Mo _ k_Mo_0) (wcs (u_Mq_Mo _ k_Mo_420) (fun _ h => h))) rfl rfl rfl (by decide +kernel) ⟨Nat.le_of_ble_eq_true rfl, Nat.le_of_ble_eq_true rfl⟩) (pv_ofE X.same (hEw _ _ hS) hP hK hD (va_recv hK hP (ci := 12) (q0 := 0) rfl rfl)) rfl rfl hl.1 rfl (lv_room (Nat.le_of_ble_eq_true rfl)) d_Mo_inode_240 ⟨by decide, by decide⟩) hS (fun q _ h => hFc q h) hFc (fun u t H locs ht hvm hw hB hz1 hk1 hS => ?_)
      obtain ⟨hP, -, hD⟩ := hB
      rw [ht] at hP
      have hD := lx_dj hD hFc
      refine lv_iconst (v := 0) hx hb d_Mo_inode_243 (by decide) ?_
      refine lv_istore (lv' := [(16, .int 0), (15, .int r_19), (0, .ref M.o), (12, .ref M.a_record), (13, .int y_13), (14, .int y_14)]) hx hb d_Mo_inode_244 hl (by decide) rfl (fun ls hl => ?_)
      refine lv_sipush (v := 268) hx hb d_Mo_inode_246 (by decide) ?_
      refine lv_istore (lv' := [(17, .int 268), (16, .int 0), (15, .int r_19), (0, .ref M.o), (12, .ref M.a_record), (13, .int y_13), (14, .int y_14)]) hx hb d_Mo_inode_249 hl (by decide) rfl (fun ls hl => ?_)
      exact hB_251 K y_13 r_19 0 268 S_20 _ _ _ h hP hD hS (lv_sub hl [3, 4, 5, 2, 1, 0] rfl)
  have hB_170 : ∀ (k : Nat), ∀ (y_13 : Int32) (y_14 : Int32) (y_15 : Int32) (y_16 : Int32) (S : MS) (H : Heap) (locs : List Loc) (ls : Array Slot), f_Mo_inode_record_170 K k y_13 y_14 y_15 y_16 S = some S' → va_P (dC, dI) classes (wM M S) H → va_D A (wM M S) → va_S A s.heap H locs → lv_has ls 18 [(0, .ref M.o), (12, .ref M.a_record), (13, .int y_13), (14, .int y_14), (15, .int y_15), (16, .int y_16)] → W p l e ({ frames := 2, cells := 0, slots := 0, locals := 42 }) s m ([.ref M.o, .int p0, .int p1, .int p2, .long p3, .long p4, .long p5, .long p6, .ref M.a_record, .int p8] : List Value).toArray below meth c H locs 0 0 Q (F0 m 170 ls []) := by
    intro k
    induction k with
    | zero => intro y_13 y_14 y_15 y_16 S H locs ls h; exact lf_no h
    | succ k hr_170 =>
      intro y_13 y_14 y_15 y_16 S H locs ls h hP hD hS hl
      rw [f_Mo_inode_record_170] at h
      refine lv_iload hx hb d_Mo_inode_170 (lv_at hl 5 rfl) ?_
      refine lv_iload hx hb d_Mo_inode_172 (lv_at hl 2 rfl) ?_
      refine lv_icmp_ge (tgt := 216) hx hb d_Mo_inode_174 (by decide) (fun c_21 => ?_) (fun c_21 => ?_)
      · have h := lf_t h c_21
        exact hB_216 y_13 y_14 S _ _ _ h hP hD hS (lv_sub hl [0, 1, 2, 3] rfl)
      · have h := lf_f h c_21
        refine lv_iload hx hb d_Mo_inode_177 (lv_at hl 5 rfl) ?_
        refine lv_sipush (v := 268) hx hb d_Mo_inode_179 (by decide) ?_
        refine lv_icmp_ge (tgt := 216) hx hb d_Mo_inode_182 (by decide) (fun c_22 => ?_) (fun c_22 => ?_)
        · have h := lf_t h c_22
          exact hB_216 y_13 y_14 S _ _ _ h hP hD hS (lv_sub hl [0, 1, 2, 3] rfl)
        · have h := lf_f h c_22
          refine lv_aload_n hx hb d_Mo_inode_185 rfl (lv_at hl 0 rfl) ?_
          refine lv_sipush (v := 1024) hx hb d_Mo_inode_186 (by decide) ?_
          refine lv_iload hx hb d_Mo_inode_189 (lv_at hl 4 rfl) ?_
          refine lv_imul hx hb d_Mo_inode_191 ?_
          refine lv_iconst (v := 4) hx hb d_Mo_inode_192 (by decide) ?_
          refine lv_iload hx hb d_Mo_inode_193 (lv_at hl 5 rfl) ?_
          refine lv_bipush (v := 12) hx hb d_Mo_inode_195 (by decide) ?_
          refine lv_isub hx hb d_Mo_inode_197 ?_
          refine lv_imul hx hb d_Mo_inode_198 ?_
          refine lv_iadd hx hb d_Mo_inode_199 ?_
          refine lv_iconst (v := 4) hx hb d_Mo_inode_200 (by decide) ?_
          refine lv_aload hx hb d_Mo_inode_201 (lv_at hl 1 rfl) ?_
          refine lv_iload hx hb d_Mo_inode_203 (lv_at hl 5 rfl) ?_
          obtain ⟨g_23, h⟩ := lf_gE h
          refine va_iald hx hb hK hP 26 25 rfl rfl g_23 d_Mo_inode_205 ?_
          refine lv_i2l hx hb d_Mo_inode_206 rfl ?_
          obtain ⟨S_24, hc_24, h⟩ := lf_bE h
          have hFc := lx_free hD hS hA
          refine va_callv (va_runV (As := [.int ((1024 * y_15) + (4 * (y_16 - 12))), .int 4, .long ((S.v_record y_16.toNatClampNeg).toInt64)]) (rest := []) ⟨hx, hb, hml, hown, hts⟩ (l_Mo_lay l dC dI X _ hc_24) (cwV 3 hts (gwV good_Mq (u_Mq_Mo _ k_Mo_418) (u_Mq_Mo _ k_Mo_419) (u_Mq_Mo _ k_Mo_538) (u_Mq_Mo _ k_Mo_0) (wcs (u_Mq_Mo _ k_Mo_420) (fun _ h => h))) rfl rfl rfl (by decide +kernel) ⟨Nat.le_of_ble_eq_true rfl, Nat.le_of_ble_eq_true rfl⟩) (pv_ofE X.same (hEw _ _ hS) hP hK hD (va_recv hK hP (ci := 12) (q0 := 0) rfl rfl)) rfl rfl hl.1 rfl (lv_room (Nat.le_of_ble_eq_true rfl)) d_Mo_inode_207 ⟨by decide, by decide⟩) hS (fun q _ h => hFc q h) hFc (fun u t H locs ht hvm hw hB hz1 hk1 hS => ?_)
          obtain ⟨hP, -, hD⟩ := hB
          rw [ht] at hP
          have hD := lx_dj hD hFc
          obtain ⟨x_25, ex_25, h⟩ := lf_lX h
          refine lv_iinc (v := x_25) (lv' := [(16, .int x_25), (0, .ref M.o), (12, .ref M.a_record), (13, .int y_13), (14, .int y_14), (15, .int y_15)]) hx hb d_Mo_inode_210 hl (k := 5) rfl (by rw [ex_25]; rfl) (by decide) rfl (fun ls hl => ?_)
          refine lv_goto (tgt := 170) hx hb d_Mo_inode_213 (by decide) ?_
          exact hr_170 y_13 y_14 y_15 x_25 S_24 _ _ _ h hP hD hS (lv_sub hl [1, 2, 3, 4, 5, 0] rfl)
  have hB_140 : ∀ (y_13 : Int32) (y_14 : Int32) (S : MS) (H : Heap) (locs : List Loc) (ls : Array Slot), f_Mo_inode_record_140 K y_13 y_14 S = some S' → va_P (dC, dI) classes (wM M S) H → va_D A (wM M S) → va_S A s.heap H locs → lv_has ls 18 [(0, .ref M.o), (12, .ref M.a_record), (13, .int y_13), (14, .int y_14)] → W p l e ({ frames := 2, cells := 0, slots := 0, locals := 42 }) s m ([.ref M.o, .int p0, .int p1, .int p2, .long p3, .long p4, .long p5, .long p6, .ref M.a_record, .int p8] : List Value).toArray below meth c H locs 0 0 Q (F0 m 140 ls []) := by
    intro y_13 y_14 S H locs ls h hP hD hS hl
    rw [f_Mo_inode_record_140] at h
    refine lv_iload hx hb d_Mo_inode_140 (lv_at hl 2 rfl) ?_
    refine lv_bipush (v := 12) hx hb d_Mo_inode_142 (by decide) ?_
    refine lv_icmp_le (tgt := 216) hx hb d_Mo_inode_144 (by decide) (fun c_15 => ?_) (fun c_15 => ?_)
    · have h := lf_t h c_15
      exact hB_216 y_13 y_14 S _ _ _ h hP hD hS (lv_sub hl [0, 1, 2, 3] rfl)
    · have h := lf_f h c_15
      refine lv_aload_n hx hb d_Mo_inode_147 rfl (lv_at hl 0 rfl) ?_
      obtain ⟨r_16, S_16, hc_16, h⟩ := lf_cE h
      have hFc := lx_free hD hS hA
      refine va_calli (va_runV (As := []) (rest := []) ⟨hx, hb, hml, hown, hts⟩ (l_Mo_build l dC dI X _ hc_16) (cwV 0 hts (gwV good_Mq (u_Mq_Mo _ k_Mo_415) (u_Mq_Mo _ k_Mo_416) (u_Mq_Mo _ k_Mo_539) (u_Mq_Mo _ k_Mo_0) (wcs (u_Mq_Mo _ k_Mo_417) (fun _ h => h))) rfl rfl rfl (by decide +kernel) ⟨Nat.le_of_ble_eq_true rfl, Nat.le_of_ble_eq_true rfl⟩) (pv_ofE X.same (hEw _ _ hS) hP hK hD (va_recv hK hP (ci := 12) (q0 := 0) rfl rfl)) rfl rfl hl.1 rfl (lv_room (Nat.le_of_ble_eq_true rfl)) d_Mo_inode_148 ⟨by decide, by decide⟩) hS (fun q _ h => hFc q h) hFc (fun r_ u t H locs ht hvm hw hB hz1 hk1 hS => ?_)
      rw [hw]
      obtain ⟨hP, -, hD⟩ := hB
      rw [ht] at hP
      have hD := lx_dj hD hFc
      refine lv_istore (lv' := [(15, .int r_16), (0, .ref M.o), (12, .ref M.a_record), (13, .int y_13), (14, .int y_14)]) hx hb d_Mo_inode_151 hl (by decide) rfl (fun ls hl => ?_)
      refine lv_aload_n hx hb d_Mo_inode_153 rfl (lv_at hl 1 rfl) ?_
      refine lv_iload hx hb d_Mo_inode_154 (lv_at hl 4 rfl) ?_
      refine lv_bipush (v := 88) hx hb d_Mo_inode_156 (by decide) ?_
      refine lv_iadd hx hb d_Mo_inode_158 ?_
      refine lv_iconst (v := 4) hx hb d_Mo_inode_159 (by decide) ?_
      refine lv_iload hx hb d_Mo_inode_160 (lv_at hl 0 rfl) ?_
      refine lv_i2l hx hb d_Mo_inode_162 rfl ?_
      obtain ⟨S_17, hc_17, h⟩ := lf_bE h
      have hFc := lx_free hD hS hA
      refine va_callv (va_runV (As := [.int (y_14 + 88), .int 4, .long r_16.toInt64]) (rest := []) ⟨hx, hb, hml, hown, hts⟩ (l_Mo_lay l dC dI X _ hc_17) (cwV 3 hts (gwV good_Mq (u_Mq_Mo _ k_Mo_418) (u_Mq_Mo _ k_Mo_419) (u_Mq_Mo _ k_Mo_538) (u_Mq_Mo _ k_Mo_0) (wcs (u_Mq_Mo _ k_Mo_420) (fun _ h => h))) rfl rfl rfl (by decide +kernel) ⟨Nat.le_of_ble_eq_true rfl, Nat.le_of_ble_eq_true rfl⟩) (pv_ofE X.same (hEw _ _ hS) hP hK hD (va_recv hK hP (ci := 12) (q0 := 0) rfl rfl)) rfl rfl hl.1 rfl (lv_room (Nat.le_of_ble_eq_true rfl)) d_Mo_inode_163 ⟨by decide, by decide⟩) hS (fun q _ h => hFc q h) hFc (fun u t H locs ht hvm hw hB hz1 hk1 hS => ?_)
      obtain ⟨hP, -, hD⟩ := hB
      rw [ht] at hP
      have hD := lx_dj hD hFc
      refine lv_bipush (v := 12) hx hb d_Mo_inode_166 (by decide) ?_
      refine lv_istore (lv' := [(16, .int 12), (15, .int r_16), (0, .ref M.o), (12, .ref M.a_record), (13, .int y_13), (14, .int y_14)]) hx hb d_Mo_inode_168 hl (by decide) rfl (fun ls hl => ?_)
      exact hB_170 K y_13 y_14 r_16 12 S_17 _ _ _ h hP hD hS (lv_sub hl [2, 3, 4, 5, 1, 0] rfl)
  have hB_99 : ∀ (k : Nat), ∀ (y_13 : Int32) (y_14 : Int32) (y_15 : Int32) (S : MS) (H : Heap) (locs : List Loc) (ls : Array Slot), f_Mo_inode_record_99 K k y_13 y_14 y_15 S = some S' → va_P (dC, dI) classes (wM M S) H → va_D A (wM M S) → va_S A s.heap H locs → lv_has ls 18 [(0, .ref M.o), (12, .ref M.a_record), (13, .int y_13), (14, .int y_14), (15, .int y_15)] → W p l e ({ frames := 2, cells := 0, slots := 0, locals := 42 }) s m ([.ref M.o, .int p0, .int p1, .int p2, .long p3, .long p4, .long p5, .long p6, .ref M.a_record, .int p8] : List Value).toArray below meth c H locs 0 0 Q (F0 m 99 ls []) := by
    intro k
    induction k with
    | zero => intro y_13 y_14 y_15 S H locs ls h; exact lf_no h
    | succ k hr_99 =>
      intro y_13 y_14 y_15 S H locs ls h hP hD hS hl
      rw [f_Mo_inode_record_99] at h
      refine lv_iload hx hb d_Mo_inode_99 (lv_at hl 4 rfl) ?_
      refine lv_iload hx hb d_Mo_inode_101 (lv_at hl 2 rfl) ?_
      refine lv_icmp_ge (tgt := 140) hx hb d_Mo_inode_103 (by decide) (fun c_10 => ?_) (fun c_10 => ?_)
      · have h := lf_t h c_10
        exact hB_140 y_13 y_14 S _ _ _ h hP hD hS (lv_sub hl [0, 1, 2, 3] rfl)
      · have h := lf_f h c_10
        refine lv_iload hx hb d_Mo_inode_106 (lv_at hl 4 rfl) ?_
        refine lv_bipush (v := 12) hx hb d_Mo_inode_108 (by decide) ?_
        refine lv_icmp_ge (tgt := 140) hx hb d_Mo_inode_110 (by decide) (fun c_11 => ?_) (fun c_11 => ?_)
        · have h := lf_t h c_11
          exact hB_140 y_13 y_14 S _ _ _ h hP hD hS (lv_sub hl [0, 1, 2, 3] rfl)
        · have h := lf_f h c_11
          refine lv_aload_n hx hb d_Mo_inode_113 rfl (lv_at hl 0 rfl) ?_
          refine lv_iload hx hb d_Mo_inode_114 (lv_at hl 3 rfl) ?_
          refine lv_bipush (v := 40) hx hb d_Mo_inode_116 (by decide) ?_
          refine lv_iadd hx hb d_Mo_inode_118 ?_
          refine lv_iconst (v := 4) hx hb d_Mo_inode_119 (by decide) ?_
          refine lv_iload hx hb d_Mo_inode_120 (lv_at hl 4 rfl) ?_
          refine lv_imul hx hb d_Mo_inode_122 ?_
          refine lv_iadd hx hb d_Mo_inode_123 ?_
          refine lv_iconst (v := 4) hx hb d_Mo_inode_124 (by decide) ?_
          refine lv_aload hx hb d_Mo_inode_125 (lv_at hl 1 rfl) ?_
          refine lv_iload hx hb d_Mo_inode_127 (lv_at hl 4 rfl) ?_
          obtain ⟨g_12, h⟩ := lf_gE h
          refine va_iald hx hb hK hP 26 25 rfl rfl g_12 d_Mo_inode_129 ?_
          refine lv_i2l hx hb d_Mo_inode_130 rfl ?_
          obtain ⟨S_13, hc_13, h⟩ := lf_bE h
          have hFc := lx_free hD hS hA
          refine va_callv (va_runV (As := [.int ((y_14 + 40) + (4 * y_15)), .int 4, .long ((S.v_record y_15.toNatClampNeg).toInt64)]) (rest := []) ⟨hx, hb, hml, hown, hts⟩ (l_Mo_lay l dC dI X _ hc_13) (cwV 3 hts (gwV good_Mq (u_Mq_Mo _ k_Mo_418) (u_Mq_Mo _ k_Mo_419) (u_Mq_Mo _ k_Mo_538) (u_Mq_Mo _ k_Mo_0) (wcs (u_Mq_Mo _ k_Mo_420) (fun _ h => h))) rfl rfl rfl (by decide +kernel) ⟨Nat.le_of_ble_eq_true rfl, Nat.le_of_ble_eq_true rfl⟩) (pv_ofE X.same (hEw _ _ hS) hP hK hD (va_recv hK hP (ci := 12) (q0 := 0) rfl rfl)) rfl rfl hl.1 rfl (lv_room (Nat.le_of_ble_eq_true rfl)) d_Mo_inode_131 ⟨by decide, by decide⟩) hS (fun q _ h => hFc q h) hFc (fun u t H locs ht hvm hw hB hz1 hk1 hS => ?_)
          obtain ⟨hP, -, hD⟩ := hB
          rw [ht] at hP
          have hD := lx_dj hD hFc
          obtain ⟨x_14, ex_14, h⟩ := lf_lX h
          refine lv_iinc (v := x_14) (lv' := [(15, .int x_14), (0, .ref M.o), (12, .ref M.a_record), (13, .int y_13), (14, .int y_14)]) hx hb d_Mo_inode_134 hl (k := 4) rfl (by rw [ex_14]; rfl) (by decide) rfl (fun ls hl => ?_)
          refine lv_goto (tgt := 99) hx hb d_Mo_inode_137 (by decide) ?_
          exact hr_99 y_13 y_14 x_14 S_13 _ _ _ h hP hD hS (lv_sub hl [1, 2, 3, 4, 0] rfl)
  rw [f_Mo_inode_record] at h
  refine lv_aload_n hx hb d_Mo_inode_0 rfl (lv_at hl 0 rfl) ?_
  refine lv_iload_n hx hb d_Mo_inode_1 rfl (lv_at hl 1 rfl) ?_
  obtain ⟨r_1, S_1, hc_1, h⟩ := lf_cE h
  have hFc := lx_free hD hS hA
  refine va_calli (va_runV (As := [.int p0]) (rest := []) ⟨hx, hb, hml, hown, hts⟩ (l_Mo_inodeAt l dC dI X _ hc_1) (cwV 1 hts (gwV good_Mq (u_Mq_Mo _ k_Mo_431) (u_Mq_Mo _ k_Mo_432) (u_Mq_Mo _ k_Mo_540) (u_Mq_Mo _ k_Mo_0) (wcs (u_Mq_Mo _ k_Mo_433) (fun _ h => h))) rfl rfl rfl (by decide +kernel) ⟨Nat.le_of_ble_eq_true rfl, Nat.le_of_ble_eq_true rfl⟩) (pv_ofE X.same (hEw _ _ hS) hP hK hD (va_recv hK hP (ci := 12) (q0 := 0) rfl rfl)) rfl rfl hl.1 rfl (lv_room (Nat.le_of_ble_eq_true rfl)) d_Mo_inode_2 ⟨by decide, by decide⟩) hS (fun q _ h => hFc q h) hFc (fun r_ u t H locs ht hvm hw hB hz1 hk1 hS => ?_)
  rw [hw]
  obtain ⟨hP, -, hD⟩ := hB
  rw [ht] at hP
  have hD := lx_dj hD hFc
  refine lv_istore (lv' := [(14, .int r_1), (0, .ref M.o), (1, .int p0), (2, .int p1), (3, .int p2), (4, .long p3), (6, .long p4), (8, .long p5), (10, .long p6), (12, .ref M.a_record), (13, .int p8)]) hx hb d_Mo_inode_5 hl (by decide) rfl (fun ls hl => ?_)
  refine lv_aload_n hx hb d_Mo_inode_7 rfl (lv_at hl 1 rfl) ?_
  refine lv_iload hx hb d_Mo_inode_8 (lv_at hl 0 rfl) ?_
  refine lv_iconst (v := 2) hx hb d_Mo_inode_10 (by decide) ?_
  refine lv_iload_n hx hb d_Mo_inode_11 rfl (lv_at hl 3 rfl) ?_
  refine lv_i2l hx hb d_Mo_inode_12 rfl ?_
  obtain ⟨S_2, hc_2, h⟩ := lf_bE h
  have hFc := lx_free hD hS hA
  refine va_callv (va_runV (As := [.int r_1, .int 2, .long p1.toInt64]) (rest := []) ⟨hx, hb, hml, hown, hts⟩ (l_Mo_lay l dC dI X _ hc_2) (cwV 3 hts (gwV good_Mq (u_Mq_Mo _ k_Mo_418) (u_Mq_Mo _ k_Mo_419) (u_Mq_Mo _ k_Mo_538) (u_Mq_Mo _ k_Mo_0) (wcs (u_Mq_Mo _ k_Mo_420) (fun _ h => h))) rfl rfl rfl (by decide +kernel) ⟨Nat.le_of_ble_eq_true rfl, Nat.le_of_ble_eq_true rfl⟩) (pv_ofE X.same (hEw _ _ hS) hP hK hD (va_recv hK hP (ci := 12) (q0 := 0) rfl rfl)) rfl rfl hl.1 rfl (lv_room (Nat.le_of_ble_eq_true rfl)) d_Mo_inode_13 ⟨by decide, by decide⟩) hS (fun q _ h => hFc q h) hFc (fun u t H locs ht hvm hw hB hz1 hk1 hS => ?_)
  obtain ⟨hP, -, hD⟩ := hB
  rw [ht] at hP
  have hD := lx_dj hD hFc
  refine lv_aload_n hx hb d_Mo_inode_16 rfl (lv_at hl 1 rfl) ?_
  refine lv_iload hx hb d_Mo_inode_17 (lv_at hl 0 rfl) ?_
  refine lv_iconst (v := 4) hx hb d_Mo_inode_19 (by decide) ?_
  refine lv_iadd hx hb d_Mo_inode_20 ?_
  refine lv_iconst (v := 4) hx hb d_Mo_inode_21 (by decide) ?_
  refine lv_lload hx hb d_Mo_inode_22 (lv_at hl 8 rfl) ?_
  obtain ⟨S_3, hc_3, h⟩ := lf_bE h
  have hFc := lx_free hD hS hA
  refine va_callv (va_runV (As := [.int (r_1 + 4), .int 4, .long p6]) (rest := []) ⟨hx, hb, hml, hown, hts⟩ (l_Mo_lay l dC dI X _ hc_3) (cwV 3 hts (gwV good_Mq (u_Mq_Mo _ k_Mo_418) (u_Mq_Mo _ k_Mo_419) (u_Mq_Mo _ k_Mo_538) (u_Mq_Mo _ k_Mo_0) (wcs (u_Mq_Mo _ k_Mo_420) (fun _ h => h))) rfl rfl rfl (by decide +kernel) ⟨Nat.le_of_ble_eq_true rfl, Nat.le_of_ble_eq_true rfl⟩) (pv_ofE X.same (hEw _ _ hS) hP hK hD (va_recv hK hP (ci := 12) (q0 := 0) rfl rfl)) rfl rfl hl.1 rfl (lv_room (Nat.le_of_ble_eq_true rfl)) d_Mo_inode_24 ⟨by decide, by decide⟩) hS (fun q _ h => hFc q h) hFc (fun u t H locs ht hvm hw hB hz1 hk1 hS => ?_)
  obtain ⟨hP, -, hD⟩ := hB
  rw [ht] at hP
  have hD := lx_dj hD hFc
  refine lv_aload_n hx hb d_Mo_inode_27 rfl (lv_at hl 1 rfl) ?_
  refine lv_iload hx hb d_Mo_inode_28 (lv_at hl 0 rfl) ?_
  refine lv_bipush (v := 8) hx hb d_Mo_inode_30 (by decide) ?_
  refine lv_iadd hx hb d_Mo_inode_32 ?_
  refine lv_iconst (v := 4) hx hb d_Mo_inode_33 (by decide) ?_
  refine lv_lload hx hb d_Mo_inode_34 (lv_at hl 5 rfl) ?_
  obtain ⟨S_4, hc_4, h⟩ := lf_bE h
  have hFc := lx_free hD hS hA
  refine va_callv (va_runV (As := [.int (r_1 + 8), .int 4, .long p3]) (rest := []) ⟨hx, hb, hml, hown, hts⟩ (l_Mo_lay l dC dI X _ hc_4) (cwV 3 hts (gwV good_Mq (u_Mq_Mo _ k_Mo_418) (u_Mq_Mo _ k_Mo_419) (u_Mq_Mo _ k_Mo_538) (u_Mq_Mo _ k_Mo_0) (wcs (u_Mq_Mo _ k_Mo_420) (fun _ h => h))) rfl rfl rfl (by decide +kernel) ⟨Nat.le_of_ble_eq_true rfl, Nat.le_of_ble_eq_true rfl⟩) (pv_ofE X.same (hEw _ _ hS) hP hK hD (va_recv hK hP (ci := 12) (q0 := 0) rfl rfl)) rfl rfl hl.1 rfl (lv_room (Nat.le_of_ble_eq_true rfl)) d_Mo_inode_36 ⟨by decide, by decide⟩) hS (fun q _ h => hFc q h) hFc (fun u t H locs ht hvm hw hB hz1 hk1 hS => ?_)
  obtain ⟨hP, -, hD⟩ := hB
  rw [ht] at hP
  have hD := lx_dj hD hFc
  refine lv_aload_n hx hb d_Mo_inode_39 rfl (lv_at hl 1 rfl) ?_
  refine lv_iload hx hb d_Mo_inode_40 (lv_at hl 0 rfl) ?_
  refine lv_bipush (v := 12) hx hb d_Mo_inode_42 (by decide) ?_
  refine lv_iadd hx hb d_Mo_inode_44 ?_
  refine lv_iconst (v := 4) hx hb d_Mo_inode_45 (by decide) ?_
  refine lv_lload hx hb d_Mo_inode_46 (lv_at hl 6 rfl) ?_
  obtain ⟨S_5, hc_5, h⟩ := lf_bE h
  have hFc := lx_free hD hS hA
  refine va_callv (va_runV (As := [.int (r_1 + 12), .int 4, .long p4]) (rest := []) ⟨hx, hb, hml, hown, hts⟩ (l_Mo_lay l dC dI X _ hc_5) (cwV 3 hts (gwV good_Mq (u_Mq_Mo _ k_Mo_418) (u_Mq_Mo _ k_Mo_419) (u_Mq_Mo _ k_Mo_538) (u_Mq_Mo _ k_Mo_0) (wcs (u_Mq_Mo _ k_Mo_420) (fun _ h => h))) rfl rfl rfl (by decide +kernel) ⟨Nat.le_of_ble_eq_true rfl, Nat.le_of_ble_eq_true rfl⟩) (pv_ofE X.same (hEw _ _ hS) hP hK hD (va_recv hK hP (ci := 12) (q0 := 0) rfl rfl)) rfl rfl hl.1 rfl (lv_room (Nat.le_of_ble_eq_true rfl)) d_Mo_inode_48 ⟨by decide, by decide⟩) hS (fun q _ h => hFc q h) hFc (fun u t H locs ht hvm hw hB hz1 hk1 hS => ?_)
  obtain ⟨hP, -, hD⟩ := hB
  rw [ht] at hP
  have hD := lx_dj hD hFc
  refine lv_aload_n hx hb d_Mo_inode_51 rfl (lv_at hl 1 rfl) ?_
  refine lv_iload hx hb d_Mo_inode_52 (lv_at hl 0 rfl) ?_
  refine lv_bipush (v := 16) hx hb d_Mo_inode_54 (by decide) ?_
  refine lv_iadd hx hb d_Mo_inode_56 ?_
  refine lv_iconst (v := 4) hx hb d_Mo_inode_57 (by decide) ?_
  refine lv_lload hx hb d_Mo_inode_58 (lv_at hl 7 rfl) ?_
  obtain ⟨S_6, hc_6, h⟩ := lf_bE h
  have hFc := lx_free hD hS hA
  refine va_callv (va_runV (As := [.int (r_1 + 16), .int 4, .long p5]) (rest := []) ⟨hx, hb, hml, hown, hts⟩ (l_Mo_lay l dC dI X _ hc_6) (cwV 3 hts (gwV good_Mq (u_Mq_Mo _ k_Mo_418) (u_Mq_Mo _ k_Mo_419) (u_Mq_Mo _ k_Mo_538) (u_Mq_Mo _ k_Mo_0) (wcs (u_Mq_Mo _ k_Mo_420) (fun _ h => h))) rfl rfl rfl (by decide +kernel) ⟨Nat.le_of_ble_eq_true rfl, Nat.le_of_ble_eq_true rfl⟩) (pv_ofE X.same (hEw _ _ hS) hP hK hD (va_recv hK hP (ci := 12) (q0 := 0) rfl rfl)) rfl rfl hl.1 rfl (lv_room (Nat.le_of_ble_eq_true rfl)) d_Mo_inode_60 ⟨by decide, by decide⟩) hS (fun q _ h => hFc q h) hFc (fun u t H locs ht hvm hw hB hz1 hk1 hS => ?_)
  obtain ⟨hP, -, hD⟩ := hB
  rw [ht] at hP
  have hD := lx_dj hD hFc
  refine lv_aload_n hx hb d_Mo_inode_63 rfl (lv_at hl 1 rfl) ?_
  refine lv_iload hx hb d_Mo_inode_64 (lv_at hl 0 rfl) ?_
  refine lv_bipush (v := 26) hx hb d_Mo_inode_66 (by decide) ?_
  refine lv_iadd hx hb d_Mo_inode_68 ?_
  refine lv_iconst (v := 2) hx hb d_Mo_inode_69 (by decide) ?_
  refine lv_iload_n hx hb d_Mo_inode_70 rfl (lv_at hl 4 rfl) ?_
  refine lv_i2l hx hb d_Mo_inode_71 rfl ?_
  obtain ⟨S_7, hc_7, h⟩ := lf_bE h
  have hFc := lx_free hD hS hA
  refine va_callv (va_runV (As := [.int (r_1 + 26), .int 2, .long p2.toInt64]) (rest := []) ⟨hx, hb, hml, hown, hts⟩ (l_Mo_lay l dC dI X _ hc_7) (cwV 3 hts (gwV good_Mq (u_Mq_Mo _ k_Mo_418) (u_Mq_Mo _ k_Mo_419) (u_Mq_Mo _ k_Mo_538) (u_Mq_Mo _ k_Mo_0) (wcs (u_Mq_Mo _ k_Mo_420) (fun _ h => h))) rfl rfl rfl (by decide +kernel) ⟨Nat.le_of_ble_eq_true rfl, Nat.le_of_ble_eq_true rfl⟩) (pv_ofE X.same (hEw _ _ hS) hP hK hD (va_recv hK hP (ci := 12) (q0 := 0) rfl rfl)) rfl rfl hl.1 rfl (lv_room (Nat.le_of_ble_eq_true rfl)) d_Mo_inode_72 ⟨by decide, by decide⟩) hS (fun q _ h => hFc q h) hFc (fun u t H locs ht hvm hw hB hz1 hk1 hS => ?_)
  obtain ⟨hP, -, hD⟩ := hB
  rw [ht] at hP
  have hD := lx_dj hD hFc
  refine lv_aload_n hx hb d_Mo_inode_75 rfl (lv_at hl 1 rfl) ?_
  refine lv_iload hx hb d_Mo_inode_76 (lv_at hl 0 rfl) ?_
  refine lv_bipush (v := 28) hx hb d_Mo_inode_78 (by decide) ?_
  refine lv_iadd hx hb d_Mo_inode_80 ?_
  refine lv_iconst (v := 4) hx hb d_Mo_inode_81 (by decide) ?_
  refine lv_iconst (v := 2) hx hb d_Mo_inode_82 (by decide) ?_
  refine lv_iload hx hb d_Mo_inode_83 (lv_at hl 10 rfl) ?_
  refine lv_iload hx hb d_Mo_inode_85 (lv_at hl 10 rfl) ?_
  obtain ⟨r_8, hc_8, h⟩ := lf_bE h
  have hFc := lx_free0 hS hA
  refine va_calli (va_runS (As := [.int p8]) (rest := [.int p8, .int 2, .int 4, .int (r_1 + 28), .ref M.o]) ⟨hx, hb, hml, hown, hts⟩ (l_Mo_indirect l dC dI  _ hc_8) (va_cwS 1 hts (gwS good_Mq (u_Mq_Mo _ k_Mo_394) (u_Mq_Mo _ k_Mo_395) (u_Mq_Mo _ k_Mo_0) (wcs (u_Mq_Mo _ k_Mo_396) (fun _ h => h))) rfl rfl rfl (by decide +kernel) ⟨Nat.le_of_ble_eq_true rfl, Nat.le_of_ble_eq_true rfl⟩) (ps_of (W := []) (tys := []) (hP.sub (ws' := []) [] rfl) (hK.sub [] rfl) (hD.sub (ws' := []) [] (by decide) rfl)) rfl rfl hl.1 rfl (lv_room (Nat.le_of_ble_eq_true rfl)) d_Mo_inode_87 ⟨by decide, by decide⟩) hS (fun q _ h => hFc q h) hFc (fun r_ u t H locs ht hvm hw hB hz1 hk1 hS => ?_)
  rw [hw]
  have hP := lx_stat (A := A) hP hk1
  refine lv_iadd hx hb d_Mo_inode_90 ?_
  refine lv_imul hx hb d_Mo_inode_91 ?_
  refine lv_i2l hx hb d_Mo_inode_92 rfl ?_
  obtain ⟨S_9, hc_9, h⟩ := lf_bE h
  have hFc := lx_free hD hS hA
  refine va_callv (va_runV (As := [.int (r_1 + 28), .int 4, .long ((2 * (p8 + r_8)).toInt64)]) (rest := []) ⟨hx, hb, hml, hown, hts⟩ (l_Mo_lay l dC dI X _ hc_9) (cwV 3 hts (gwV good_Mq (u_Mq_Mo _ k_Mo_418) (u_Mq_Mo _ k_Mo_419) (u_Mq_Mo _ k_Mo_538) (u_Mq_Mo _ k_Mo_0) (wcs (u_Mq_Mo _ k_Mo_420) (fun _ h => h))) rfl rfl rfl (by decide +kernel) ⟨Nat.le_of_ble_eq_true rfl, Nat.le_of_ble_eq_true rfl⟩) (pv_ofE X.same (hEw _ _ hS) hP hK hD (va_recv hK hP (ci := 12) (q0 := 0) rfl rfl)) rfl rfl hl.1 rfl (lv_room (Nat.le_of_ble_eq_true rfl)) d_Mo_inode_93 ⟨by decide, by decide⟩) hS (fun q _ h => hFc q h) hFc (fun u t H locs ht hvm hw hB hz1 hk1 hS => ?_)
  obtain ⟨hP, -, hD⟩ := hB
  rw [ht] at hP
  have hD := lx_dj hD hFc
  refine lv_iconst (v := 0) hx hb d_Mo_inode_96 (by decide) ?_
  refine lv_istore (lv' := [(15, .int 0), (14, .int r_1), (0, .ref M.o), (1, .int p0), (2, .int p1), (3, .int p2), (4, .long p3), (6, .long p4), (8, .long p5), (10, .long p6), (12, .ref M.a_record), (13, .int p8)]) hx hb d_Mo_inode_97 hl (by decide) rfl (fun ls hl => ?_)
  exact hB_99 K p8 r_1 0 S_9 _ _ _ h hP hD hS (lv_sub hl [2, 10, 11, 1, 0] rfl)
set_option maxHeartbeats 4000000 in
set_option maxRecDepth 100000 in
theorem l_Mo_inode_list (l : Launch) (dC : Nat → ClassId) (dI : Nat → Nat → Nat) {K : Nat} {M : MA} {E : State → Prop} (X : lx_X l dC dI K M E) (sz : Nat) {S S' : MS} {p0 : Int32} {p1 : Int32} {p2 : Int32} {p3 : Int64} {p4 : Int64} {p5 : Int64} {p6 : Int64} {p8 : Int32} (h : f_Mo_inode_list K S p0 p1 p2 p3 p4 p5 p6 p8 = some S') : Met l y_Mo_inode (.code y_Mo_inode b_Mo_inode 18 none :: V_Mq) ({ frames := 2, cells := 0, slots := 0, locals := 42 }) (va_Pc [.ref M.o, .int p0, .int p1, .int p2, .long p3, .long p4, .long p5, .long p6, .ref M.a_list, .int p8] (fun U => U.heap.size = sz ∧ at_ (dC, dI) (fun _ => True) (wM M S) (tM M) U ∧ E U)) (va_Qv (fun (u : Unit) => True) (fun (u : Unit) t => at_ (dC, dI) (va_A (wM M S) sz) (wM M S') (tM M) t) (va_A (wM M S) sz)) 0 0 (va_A (wM M S) sz) := by
  refine Met.ofW (cc := b_Mo_inode) (maxL := 18) (ret := none) (by decide) rfl ?_
  intro p e s m args below meth c s₁ B hml hv
  obtain ⟨rfl, hsz, ⟨hP, hK, hD0⟩, hE⟩ := hv
  have hx := B.exec
  have hb := B.bytes
  have hr := B.returns
  have hts0 := atoms_spec (ws := .code y_Mo_inode b_Mo_inode 18 none :: V_Mq) B.pre
  have hts : ∀ w ∈ V_Mq, w.before ([.ref M.o, .int p0, .int p1, .int p2, .long p3, .long p4, .long p5, .long p6, .ref M.a_list, .int p8] : List Value).toArray s = true := fun w h => hts0 w (List.mem_cons_of_mem _ h)
  have hown : s.vm.findClass R_Mo = some m.cls := findClass_of_methodNamed B.named
  subst hsz
  have hD := hD0.self (sz := s.heap.size)
  generalize hAe : va_A (wM M S) s.heap.size = A at hD ⊢
  have hA : ∀ q : Nat, s.heap.size ≤ q → A q := fun q h => by rw [← hAe]; exact Or.inr h
  have hS : va_S A s.heap s.heap [] := va_S.rf
  have hP : va_P (dC, dI) classes (wM M S) s.heap := hP
  have hK : va_K (dC, dI) classes (tM M) s := hK
  have hEw : ∀ (H : Heap) (locs : List Loc), va_S A s.heap H locs → ∀ U : State, U.heap = H → s.WarmedH U.vm → E U := fun H locs hS U hU hW => lx_kept X hE hAe hS hU hW
  have hl := lv_entry ([.ref M.o, .int p0, .int p1, .int p2, .long p3, .long p4, .long p5, .long p6, .ref M.a_list, .int p8]) (n := 18) (Nat.le_of_ble_eq_true rfl)
  rw [lg_entry_eq]
  generalize (lg_sl ([.ref M.o, .int p0, .int p1, .int p2, .long p3, .long p4, .long p5, .long p6, .ref M.a_list, .int p8]) ++ List.replicate (18 - (lg_sl ([.ref M.o, .int p0, .int p1, .int p2, .long p3, .long p4, .long p5, .long p6, .ref M.a_list, .int p8])).length) Slot.unset).toArray = ls at hl ⊢
  have hl : lv_has ls 18 [(0, .ref M.o), (1, .int p0), (2, .int p1), (3, .int p2), (4, .long p3), (6, .long p4), (8, .long p5), (10, .long p6), (12, .ref M.a_list), (13, .int p8)] := hl
  refine qabs (fun Q hQ => ?_)
  have hB_304 : ∀ (rec_251 : Int32 → Int32 → Int32 → Int32 → MS → Option (MS)) (hr_251 : ∀ (y_13 : Int32) (y_15 : Int32) (y_16 : Int32) (y_17 : Int32) (S : MS) (H : Heap) (locs : List Loc) (ls : Array Slot), rec_251 y_13 y_15 y_16 y_17 S = some S' → va_P (dC, dI) classes (wM M S) H → va_D A (wM M S) → va_S A s.heap H locs → lv_has ls 18 [(0, .ref M.o), (12, .ref M.a_list), (13, .int y_13), (15, .int y_15), (16, .int y_16), (17, .int y_17)] → W p l e ({ frames := 2, cells := 0, slots := 0, locals := 42 }) s m ([.ref M.o, .int p0, .int p1, .int p2, .long p3, .long p4, .long p5, .long p6, .ref M.a_list, .int p8] : List Value).toArray below meth c H locs 0 0 Q (F0 m 251 ls [])), ∀ (y_13 : Int32) (y_15 : Int32) (y_16 : Int32) (y_17 : Int32) (S : MS) (H : Heap) (locs : List Loc) (ls : Array Slot), f_Mo_inode_list_304 K rec_251 y_13 y_15 y_16 y_17 S = some S' → va_P (dC, dI) classes (wM M S) H → va_D A (wM M S) → va_S A s.heap H locs → lv_has ls 18 [(0, .ref M.o), (12, .ref M.a_list), (13, .int y_13), (15, .int y_15), (16, .int y_16), (17, .int y_17)] → W p l e ({ frames := 2, cells := 0, slots := 0, locals := 42 }) s m ([.ref M.o, .int p0, .int p1, .int p2, .long p3, .long p4, .long p5, .long p6, .ref M.a_list, .int p8] : List Value).toArray below meth c H locs 0 0 Q (F0 m 304 ls []) := by
    intro rec_251 hr_251 y_13 y_15 y_16 y_17 S H locs ls h hP hD hS hl
    rw [f_Mo_inode_list_304] at h
    refine lv_aload_n hx hb d_Mo_inode_304 rfl (lv_at hl 0 rfl) ?_
    refine lv_sipush (v := 1024) hx hb d_Mo_inode_305 (by decide) ?_
    refine lv_iload hx hb d_Mo_inode_308 (lv_at hl 4 rfl) ?_
    refine lv_imul hx hb d_Mo_inode_310 ?_
    refine lv_iload hx hb d_Mo_inode_311 (lv_at hl 5 rfl) ?_
    refine lv_sipush (v := 268) hx hb d_Mo_inode_313 (by decide) ?_
    refine lv_isub hx hb d_Mo_inode_316 ?_
    refine lv_sipush (v := 256) hx hb d_Mo_inode_317 (by decide) ?_
    refine lv_irem hx hb d_Mo_inode_320 (by decide) ?_
    refine lv_iconst (v := 4) hx hb d_Mo_inode_321 (by decide) ?_
    refine lv_imul hx hb d_Mo_inode_322 ?_
    refine lv_iadd hx hb d_Mo_inode_323 ?_
    refine lv_iconst (v := 4) hx hb d_Mo_inode_324 (by decide) ?_
    refine lv_aload hx hb d_Mo_inode_325 (lv_at hl 1 rfl) ?_
    refine lv_iload hx hb d_Mo_inode_327 (lv_at hl 5 rfl) ?_
    obtain ⟨g_30, h⟩ := lf_gE h
    refine va_iald hx hb hK hP 27 26 rfl rfl g_30 d_Mo_inode_329 ?_
    refine lv_i2l hx hb d_Mo_inode_330 rfl ?_
    obtain ⟨S_31, hc_31, h⟩ := lf_bE h
    have hFc := lx_free hD hS hA
    refine va_callv (va_runV (As := [.int ((1024 * y_16) + (((y_17 - 268) - (y_17 - 268) / 256 * 256) * 4)), .int 4, .long ((S.v_list y_17.toNatClampNeg).toInt64)]) (rest := []) ⟨hx, hb, hml, hown, hts⟩ (l_Mo_lay l dC dI X _ hc_31) (cwV 3 hts (gwV good_Mq (u_Mq_Mo _ k_Mo_418) (u_Mq_Mo _ k_Mo_419) (u_Mq_Mo _ k_Mo_538) (u_Mq_Mo _ k_Mo_0) (wcs (u_Mq_Mo _ k_Mo_420) (fun _ h => h))) rfl rfl rfl (by decide +kernel) ⟨Nat.le_of_ble_eq_true rfl, Nat.le_of_ble_eq_true rfl⟩) (pv_ofE X.same (hEw _ _ hS) hP hK hD (va_recv hK hP (ci := 12) (q0 := 0) rfl rfl)) rfl rfl hl.1 rfl (lv_room (Nat.le_of_ble_eq_true rfl)) d_Mo_inode_331 ⟨by decide, by decide⟩) hS (fun q _ h => hFc q h) hFc (fun u t H locs ht hvm hw hB hz1 hk1 hS => ?_)
    obtain ⟨hP, -, hD⟩ := hB
    rw [ht] at hP
    have hD := lx_dj hD hFc
    obtain ⟨x_32, ex_32, h⟩ := lf_lX h
    refine lv_iinc (v := x_32) (lv' := [(17, .int x_32), (0, .ref M.o), (12, .ref M.a_list), (13, .int y_13), (15, .int y_15), (16, .int y_16)]) hx hb d_Mo_inode_334 hl (k := 5) rfl (by rw [ex_32]; rfl) (by decide) rfl (fun ls hl => ?_)
    refine lv_goto (tgt := 251) hx hb d_Mo_inode_337 (by decide) ?_
    exact hr_251 y_13 y_15 y_16 x_32 S_31 _ _ _ h hP hD hS (lv_sub hl [1, 2, 3, 4, 5, 0] rfl)
  have hB_251 : ∀ (k : Nat), ∀ (y_13 : Int32) (y_15 : Int32) (y_16 : Int32) (y_17 : Int32) (S : MS) (H : Heap) (locs : List Loc) (ls : Array Slot), f_Mo_inode_list_251 K k y_13 y_15 y_16 y_17 S = some S' → va_P (dC, dI) classes (wM M S) H → va_D A (wM M S) → va_S A s.heap H locs → lv_has ls 18 [(0, .ref M.o), (12, .ref M.a_list), (13, .int y_13), (15, .int y_15), (16, .int y_16), (17, .int y_17)] → W p l e ({ frames := 2, cells := 0, slots := 0, locals := 42 }) s m ([.ref M.o, .int p0, .int p1, .int p2, .long p3, .long p4, .long p5, .long p6, .ref M.a_list, .int p8] : List Value).toArray below meth c H locs 0 0 Q (F0 m 251 ls []) := by
    intro k
    induction k with
    | zero => intro y_13 y_15 y_16 y_17 S H locs ls h; exact lf_no h
    | succ k hr_251 =>
      intro y_13 y_15 y_16 y_17 S H locs ls h hP hD hS hl
      rw [f_Mo_inode_list_251] at h
      refine lv_iload hx hb d_Mo_inode_251 (lv_at hl 5 rfl) ?_
      refine lv_iload hx hb d_Mo_inode_253 (lv_at hl 2 rfl) ?_
      refine lv_icmp_ge (tgt := 340) hx hb d_Mo_inode_255 (by decide) (fun c_26 => ?_) (fun c_26 => ?_)
      · have h := lf_t h c_26
        rw [hQ]
        have e2 : S = S' := Option.some.inj h
        have hP := lx_newP e2.symm hP
        have hD := lx_newD e2.symm hD
        exact W.vret hx hb hr (fun t ht hW => ⟨⟨(), rfl, trivial, by rw [ht]; exact hP, va_K.moved hW.alike hK, hD⟩, hS.F ht⟩) hS.2.2 d_Mo_inode_340
      · have h := lf_f h c_26
        refine lv_iload hx hb d_Mo_inode_258 (lv_at hl 5 rfl) ?_
        refine lv_sipush (v := 268) hx hb d_Mo_inode_260 (by decide) ?_
        refine lv_isub hx hb d_Mo_inode_263 ?_
        refine lv_sipush (v := 256) hx hb d_Mo_inode_264 (by decide) ?_
        refine lv_irem hx hb d_Mo_inode_267 (by decide) ?_
        refine lv_if_ne (tgt := 304) hx hb d_Mo_inode_268 (by decide) (fun c_27 => ?_) (fun c_27 => ?_)
        · have h := lf_f h c_27
          exact hB_304 _ hr_251 y_13 y_15 y_16 y_17 S _ _ _ h hP hD hS (lv_sub hl [0, 1, 2, 3, 4, 5] rfl)
        · have h := lf_t h c_27
          refine lv_aload_n hx hb d_Mo_inode_271 rfl (lv_at hl 0 rfl) ?_
          obtain ⟨r_28, S_28, hc_28, h⟩ := lf_cE h
          have hFc := lx_free hD hS hA
          refine va_calli (va_runV (As := []) (rest := []) ⟨hx, hb, hml, hown, hts⟩ (l_Mo_build l dC dI X _ hc_28) (cwV 0 hts (gwV good_Mq (u_Mq_Mo _ k_Mo_415) (u_Mq_Mo _ k_Mo_416) (u_Mq_Mo _ k_Mo_539) (u_Mq_Mo _ k_Mo_0) (wcs (u_Mq_Mo _ k_Mo_417) (fun _ h => h))) rfl rfl rfl (by decide +kernel) ⟨Nat.le_of_ble_eq_true rfl, Nat.le_of_ble_eq_true rfl⟩) (pv_ofE X.same (hEw _ _ hS) hP hK hD (va_recv hK hP (ci := 12) (q0 := 0) rfl rfl)) rfl rfl hl.1 rfl (lv_room (Nat.le_of_ble_eq_true rfl)) d_Mo_inode_272 ⟨by decide, by decide⟩) hS (fun q _ h => hFc q h) hFc (fun r_ u t H locs ht hvm hw hB hz1 hk1 hS => ?_)
          rw [hw]
          obtain ⟨hP, -, hD⟩ := hB
          rw [ht] at hP
          have hD := lx_dj hD hFc
          refine lv_istore (lv' := [(16, .int r_28), (0, .ref M.o), (12, .ref M.a_list), (13, .int y_13), (15, .int y_15), (17, .int y_17)]) hx hb d_Mo_inode_275 hl (by decide) rfl (fun ls hl => ?_)
          refine lv_aload_n hx hb d_Mo_inode_277 rfl (lv_at hl 1 rfl) ?_
          refine lv_sipush (v := 1024) hx hb d_Mo_inode_278 (by decide) ?_
          refine lv_iload hx hb d_Mo_inode_281 (lv_at hl 4 rfl) ?_
          refine lv_imul hx hb d_Mo_inode_283 ?_
          refine lv_iload hx hb d_Mo_inode_284 (lv_at hl 5 rfl) ?_
          refine lv_sipush (v := 268) hx hb d_Mo_inode_286 (by decide) ?_
          refine lv_isub hx hb d_Mo_inode_289 ?_
          refine lv_sipush (v := 256) hx hb d_Mo_inode_290 (by decide) ?_
          refine lv_idiv hx hb d_Mo_inode_293 (by decide) ?_
          refine lv_iconst (v := 4) hx hb d_Mo_inode_294 (by decide) ?_
          refine lv_imul hx hb d_Mo_inode_295 ?_
          refine lv_iadd hx hb d_Mo_inode_296 ?_
          refine lv_iconst (v := 4) hx hb d_Mo_inode_297 (by decide) ?_
          refine lv_iload hx hb d_Mo_inode_298 (lv_at hl 0 rfl) ?_
          refine lv_i2l hx hb d_Mo_inode_300 rfl ?_
          obtain ⟨S_29, hc_29, h⟩ := lf_bE h
          have hFc := lx_free hD hS hA
          refine va_callv (va_runV (As := [.int ((1024 * y_15) + (((y_17 - 268) / 256) * 4)), .int 4, .long r_28.toInt64]) (rest := []) ⟨hx, hb, hml, hown, hts⟩ (l_Mo_lay l dC dI X _ hc_29) (cwV 3 hts (gwV good_Mq (u_Mq_Mo _ k_Mo_418) (u_Mq_Mo _ k_Mo_419) (u_Mq_Mo _ k_Mo_538) (u_Mq_Mo _ k_Mo_0) (wcs (u_Mq_Mo _ k_Mo_420) (fun _ h => h))) rfl rfl rfl (by decide +kernel) ⟨Nat.le_of_ble_eq_true rfl, Nat.le_of_ble_eq_true rfl⟩) (pv_ofE X.same (hEw _ _ hS) hP hK hD (va_recv hK hP (ci := 12) (q0 := 0) rfl rfl)) rfl rfl hl.1 rfl (lv_room (Nat.le_of_ble_eq_true rfl)) d_Mo_inode_301 ⟨by decide, by decide⟩) hS (fun q _ h => hFc q h) hFc (fun u t H locs ht hvm hw hB hz1 hk1 hS => ?_)
          obtain ⟨hP, -, hD⟩ := hB
          rw [ht] at hP
          have hD := lx_dj hD hFc
          exact hB_304 _ hr_251 y_13 y_15 r_28 y_17 S_29 _ _ _ h hP hD hS (lv_sub hl [1, 2, 3, 4, 0, 5] rfl)
  have hB_216 : ∀ (y_13 : Int32) (y_14 : Int32) (S : MS) (H : Heap) (locs : List Loc) (ls : Array Slot), f_Mo_inode_list_216 K y_13 y_14 S = some S' → va_P (dC, dI) classes (wM M S) H → va_D A (wM M S) → va_S A s.heap H locs → lv_has ls 18 [(0, .ref M.o), (12, .ref M.a_list), (13, .int y_13), (14, .int y_14)] → W p l e ({ frames := 2, cells := 0, slots := 0, locals := 42 }) s m ([.ref M.o, .int p0, .int p1, .int p2, .long p3, .long p4, .long p5, .long p6, .ref M.a_list, .int p8] : List Value).toArray below meth c H locs 0 0 Q (F0 m 216 ls []) := by
    intro y_13 y_14 S H locs ls h hP hD hS hl
    rw [f_Mo_inode_list_216] at h
    refine lv_iload hx hb d_Mo_inode_216 (lv_at hl 2 rfl) ?_
    refine lv_sipush (v := 268) hx hb d_Mo_inode_218 (by decide) ?_
    refine lv_icmp_le (tgt := 340) hx hb d_Mo_inode_221 (by decide) (fun c_18 => ?_) (fun c_18 => ?_)
    · have h := lf_t h c_18
      rw [hQ]
      have e2 : S = S' := Option.some.inj h
      have hP := lx_newP e2.symm hP
      have hD := lx_newD e2.symm hD
      exact W.vret hx hb hr (fun t ht hW => ⟨⟨(), rfl, trivial, by rw [ht]; exact hP, va_K.moved hW.alike hK, hD⟩, hS.F ht⟩) hS.2.2 d_Mo_inode_340
    · have h := lf_f h c_18
      refine lv_aload_n hx hb d_Mo_inode_224 rfl (lv_at hl 0 rfl) ?_
      obtain ⟨r_19, S_19, hc_19, h⟩ := lf_cE h
      have hFc := lx_free hD hS hA
      refine va_calli (va_runV (As := []) (rest := []) ⟨hx, hb, hml, hown, hts⟩ (l_Mo_build l dC dI X _ hc_19) (cwV 0 hts (gwV good_Mq (u_Mq_Mo _ k_Mo_415) (u_Mq_Mo _ k_Mo_416) (u_Mq_Mo _ k_Mo_539) (u_Mq_Mo _ k_Mo_0) (wcs (u_Mq_Mo _ k_Mo_417) (fun _ h => h))) rfl rfl rfl (by decide +kernel) ⟨Nat.le_of_ble_eq_true rfl, Nat.le_of_ble_eq_true rfl⟩) (pv_ofE X.same (hEw _ _ hS) hP hK hD (va_recv hK hP (ci := 12) (q0 := 0) rfl rfl)) rfl rfl hl.1 rfl (lv_room (Nat.le_of_ble_eq_true rfl)) d_Mo_inode_225 ⟨by decide, by decide⟩) hS (fun q _ h => hFc q h) hFc (fun r_ u t H locs ht hvm hw hB hz1 hk1 hS => ?_)
      rw [hw]
      obtain ⟨hP, -, hD⟩ := hB
      rw [ht] at hP
      have hD := lx_dj hD hFc
      refine lv_istore (lv' := [(15, .int r_19), (0, .ref M.o), (12, .ref M.a_list), (13, .int y_13), (14, .int y_14)]) hx hb d_Mo_inode_228 hl (by decide) rfl (fun ls hl => ?_)
      refine lv_aload_n hx hb d_Mo_inode_230 rfl (lv_at hl 1 rfl) ?_
      refine lv_iload hx hb d_Mo_inode_231 (lv_at hl 4 rfl) ?_
      refine lv_bipush (v := 92) hx hb d_Mo_inode_233 (by decide) ?_
      refine lv_iadd hx hb d_Mo_inode_235 ?_
      refine lv_iconst (v := 4) hx hb d_Mo_inode_236 (by decide) ?_
      refine lv_iload hx hb d_Mo_inode_237 (lv_at hl 0 rfl) ?_
      refine lv_i2l hx hb d_Mo_inode_239 rfl ?_
      obtain ⟨S_20, hc_20, h⟩ := lf_bE h
      have hFc := lx_free hD hS hA
      refine va_callv (va_runV (As := [.int (y_14 + 92), .int 4, .long r_19.toInt64]) (rest := []) ⟨hx, hb, hml, hown, hts⟩ (l_Mo_lay l dC dI X _ hc_20) (cwV 3 hts (gwV good_Mq (u_Mq_Mo _ k_Mo_418) (u_Mq_Mo _ k_Mo_419) (u_Mq_Mo _ k_Mo_538) (u_Mq_Mo _ k_Mo_0) (wcs (u_Mq_Mo _ k_Mo_420) (fun _ h => h))) rfl rfl rfl (by decide +kernel) ⟨Nat.le_of_ble_eq_true rfl, Nat.le_of_ble_eq_true rfl⟩) (pv_ofE X.same (hEw _ _ hS) hP hK hD (va_recv hK hP (ci := 12) (q0 := 0) rfl rfl)) rfl rfl hl.1 rfl (lv_room (Nat.le_of_ble_eq_true rfl)) d_Mo_inode_240 ⟨by decide, by decide⟩) hS (fun q _ h => hFc q h) hFc (fun u t H locs ht hvm hw hB hz1 hk1 hS => ?_)
      obtain ⟨hP, -, hD⟩ := hB
      rw [ht] at hP
      have hD := lx_dj hD hFc
      refine lv_iconst (v := 0) hx hb d_Mo_inode_243 (by decide) ?_
      refine lv_istore (lv' := [(16, .int 0), (15, .int r_19), (0, .ref M.o), (12, .ref M.a_list), (13, .int y_13), (14, .int y_14)]) hx hb d_Mo_inode_244 hl (by decide) rfl (fun ls hl => ?_)
      refine lv_sipush (v := 268) hx hb d_Mo_inode_246 (by decide) ?_
      refine lv_istore (lv' := [(17, .int 268), (16, .int 0), (15, .int r_19), (0, .ref M.o), (12, .ref M.a_list), (13, .int y_13), (14, .int y_14)]) hx hb d_Mo_inode_249 hl (by decide) rfl (fun ls hl => ?_)
      exact hB_251 K y_13 r_19 0 268 S_20 _ _ _ h hP hD hS (lv_sub hl [3, 4, 5, 2, 1, 0] rfl)
  have hB_170 : ∀ (k : Nat), ∀ (y_13 : Int32) (y_14 : Int32) (y_15 : Int32) (y_16 : Int32) (S : MS) (H : Heap) (locs : List Loc) (ls : Array Slot), f_Mo_inode_list_170 K k y_13 y_14 y_15 y_16 S = some S' → va_P (dC, dI) classes (wM M S) H → va_D A (wM M S) → va_S A s.heap H locs → lv_has ls 18 [(0, .ref M.o), (12, .ref M.a_list), (13, .int y_13), (14, .int y_14), (15, .int y_15), (16, .int y_16)] → W p l e ({ frames := 2, cells := 0, slots := 0, locals := 42 }) s m ([.ref M.o, .int p0, .int p1, .int p2, .long p3, .long p4, .long p5, .long p6, .ref M.a_list, .int p8] : List Value).toArray below meth c H locs 0 0 Q (F0 m 170 ls []) := by
    intro k
    induction k with
    | zero => intro y_13 y_14 y_15 y_16 S H locs ls h; exact lf_no h
    | succ k hr_170 =>
      intro y_13 y_14 y_15 y_16 S H locs ls h hP hD hS hl
      rw [f_Mo_inode_list_170] at h
      refine lv_iload hx hb d_Mo_inode_170 (lv_at hl 5 rfl) ?_
      refine lv_iload hx hb d_Mo_inode_172 (lv_at hl 2 rfl) ?_
      refine lv_icmp_ge (tgt := 216) hx hb d_Mo_inode_174 (by decide) (fun c_21 => ?_) (fun c_21 => ?_)
      · have h := lf_t h c_21
        exact hB_216 y_13 y_14 S _ _ _ h hP hD hS (lv_sub hl [0, 1, 2, 3] rfl)
      · have h := lf_f h c_21
        refine lv_iload hx hb d_Mo_inode_177 (lv_at hl 5 rfl) ?_
        refine lv_sipush (v := 268) hx hb d_Mo_inode_179 (by decide) ?_
        refine lv_icmp_ge (tgt := 216) hx hb d_Mo_inode_182 (by decide) (fun c_22 => ?_) (fun c_22 => ?_)
        · have h := lf_t h c_22
          exact hB_216 y_13 y_14 S _ _ _ h hP hD hS (lv_sub hl [0, 1, 2, 3] rfl)
        · have h := lf_f h c_22
          refine lv_aload_n hx hb d_Mo_inode_185 rfl (lv_at hl 0 rfl) ?_
          refine lv_sipush (v := 1024) hx hb d_Mo_inode_186 (by decide) ?_
          refine lv_iload hx hb d_Mo_inode_189 (lv_at hl 4 rfl) ?_
          refine lv_imul hx hb d_Mo_inode_191 ?_
          refine lv_iconst (v := 4) hx hb d_Mo_inode_192 (by decide) ?_
          refine lv_iload hx hb d_Mo_inode_193 (lv_at hl 5 rfl) ?_
          refine lv_bipush (v := 12) hx hb d_Mo_inode_195 (by decide) ?_
          refine lv_isub hx hb d_Mo_inode_197 ?_
          refine lv_imul hx hb d_Mo_inode_198 ?_
          refine lv_iadd hx hb d_Mo_inode_199 ?_
          refine lv_iconst (v := 4) hx hb d_Mo_inode_200 (by decide) ?_
          refine lv_aload hx hb d_Mo_inode_201 (lv_at hl 1 rfl) ?_
          refine lv_iload hx hb d_Mo_inode_203 (lv_at hl 5 rfl) ?_
          obtain ⟨g_23, h⟩ := lf_gE h
          refine va_iald hx hb hK hP 27 26 rfl rfl g_23 d_Mo_inode_205 ?_
          refine lv_i2l hx hb d_Mo_inode_206 rfl ?_
          obtain ⟨S_24, hc_24, h⟩ := lf_bE h
          have hFc := lx_free hD hS hA
          refine va_callv (va_runV (As := [.int ((1024 * y_15) + (4 * (y_16 - 12))), .int 4, .long ((S.v_list y_16.toNatClampNeg).toInt64)]) (rest := []) ⟨hx, hb, hml, hown, hts⟩ (l_Mo_lay l dC dI X _ hc_24) (cwV 3 hts (gwV good_Mq (u_Mq_Mo _ k_Mo_418) (u_Mq_Mo _ k_Mo_419) (u_Mq_Mo _ k_Mo_538) (u_Mq_Mo _ k_Mo_0) (wcs (u_Mq_Mo _ k_Mo_420) (fun _ h => h))) rfl rfl rfl (by decide +kernel) ⟨Nat.le_of_ble_eq_true rfl, Nat.le_of_ble_eq_true rfl⟩) (pv_ofE X.same (hEw _ _ hS) hP hK hD (va_recv hK hP (ci := 12) (q0 := 0) rfl rfl)) rfl rfl hl.1 rfl (lv_room (Nat.le_of_ble_eq_true rfl)) d_Mo_inode_207 ⟨by decide, by decide⟩) hS (fun q _ h => hFc q h) hFc (fun u t H locs ht hvm hw hB hz1 hk1 hS => ?_)
          obtain ⟨hP, -, hD⟩ := hB
          rw [ht] at hP
          have hD := lx_dj hD hFc
          obtain ⟨x_25, ex_25, h⟩ := lf_lX h
          refine lv_iinc (v := x_25) (lv' := [(16, .int x_25), (0, .ref M.o), (12, .ref M.a_list), (13, .int y_13), (14, .int y_14), (15, .int y_15)]) hx hb d_Mo_inode_210 hl (k := 5) rfl (by rw [ex_25]; rfl) (by decide) rfl (fun ls hl => ?_)
          refine lv_goto (tgt := 170) hx hb d_Mo_inode_213 (by decide) ?_
          exact hr_170 y_13 y_14 y_15 x_25 S_24 _ _ _ h hP hD hS (lv_sub hl [1, 2, 3, 4, 5, 0] rfl)
  have hB_140 : ∀ (y_13 : Int32) (y_14 : Int32) (S : MS) (H : Heap) (locs : List Loc) (ls : Array Slot), f_Mo_inode_list_140 K y_13 y_14 S = some S' → va_P (dC, dI) classes (wM M S) H → va_D A (wM M S) → va_S A s.heap H locs → lv_has ls 18 [(0, .ref M.o), (12, .ref M.a_list), (13, .int y_13), (14, .int y_14)] → W p l e ({ frames := 2, cells := 0, slots := 0, locals := 42 }) s m ([.ref M.o, .int p0, .int p1, .int p2, .long p3, .long p4, .long p5, .long p6, .ref M.a_list, .int p8] : List Value).toArray below meth c H locs 0 0 Q (F0 m 140 ls []) := by
    intro y_13 y_14 S H locs ls h hP hD hS hl
    rw [f_Mo_inode_list_140] at h
    refine lv_iload hx hb d_Mo_inode_140 (lv_at hl 2 rfl) ?_
    refine lv_bipush (v := 12) hx hb d_Mo_inode_142 (by decide) ?_
    refine lv_icmp_le (tgt := 216) hx hb d_Mo_inode_144 (by decide) (fun c_15 => ?_) (fun c_15 => ?_)
    · have h := lf_t h c_15
      exact hB_216 y_13 y_14 S _ _ _ h hP hD hS (lv_sub hl [0, 1, 2, 3] rfl)
    · have h := lf_f h c_15
      refine lv_aload_n hx hb d_Mo_inode_147 rfl (lv_at hl 0 rfl) ?_
      obtain ⟨r_16, S_16, hc_16, h⟩ := lf_cE h
      have hFc := lx_free hD hS hA
      refine va_calli (va_runV (As := []) (rest := []) ⟨hx, hb, hml, hown, hts⟩ (l_Mo_build l dC dI X _ hc_16) (cwV 0 hts (gwV good_Mq (u_Mq_Mo _ k_Mo_415) (u_Mq_Mo _ k_Mo_416) (u_Mq_Mo _ k_Mo_539) (u_Mq_Mo _ k_Mo_0) (wcs (u_Mq_Mo _ k_Mo_417) (fun _ h => h))) rfl rfl rfl (by decide +kernel) ⟨Nat.le_of_ble_eq_true rfl, Nat.le_of_ble_eq_true rfl⟩) (pv_ofE X.same (hEw _ _ hS) hP hK hD (va_recv hK hP (ci := 12) (q0 := 0) rfl rfl)) rfl rfl hl.1 rfl (lv_room (Nat.le_of_ble_eq_true rfl)) d_Mo_inode_148 ⟨by decide, by decide⟩) hS (fun q _ h => hFc q h) hFc (fun r_ u t H locs ht hvm hw hB hz1 hk1 hS => ?_)
      rw [hw]
      obtain ⟨hP, -, hD⟩ := hB
      rw [ht] at hP
      have hD := lx_dj hD hFc
      refine lv_istore (lv' := [(15, .int r_16), (0, .ref M.o), (12, .ref M.a_list), (13, .int y_13), (14, .int y_14)]) hx hb d_Mo_inode_151 hl (by decide) rfl (fun ls hl => ?_)
      refine lv_aload_n hx hb d_Mo_inode_153 rfl (lv_at hl 1 rfl) ?_
      refine lv_iload hx hb d_Mo_inode_154 (lv_at hl 4 rfl) ?_
      refine lv_bipush (v := 88) hx hb d_Mo_inode_156 (by decide) ?_
      refine lv_iadd hx hb d_Mo_inode_158 ?_
      refine lv_iconst (v := 4) hx hb d_Mo_inode_159 (by decide) ?_
      refine lv_iload hx hb d_Mo_inode_160 (lv_at hl 0 rfl) ?_
      refine lv_i2l hx hb d_Mo_inode_162 rfl ?_
      obtain ⟨S_17, hc_17, h⟩ := lf_bE h
      have hFc := lx_free hD hS hA
      refine va_callv (va_runV (As := [.int (y_14 + 88), .int 4, .long r_16.toInt64]) (rest := []) ⟨hx, hb, hml, hown, hts⟩ (l_Mo_lay l dC dI X _ hc_17) (cwV 3 hts (gwV good_Mq (u_Mq_Mo _ k_Mo_418) (u_Mq_Mo _ k_Mo_419) (u_Mq_Mo _ k_Mo_538) (u_Mq_Mo _ k_Mo_0) (wcs (u_Mq_Mo _ k_Mo_420) (fun _ h => h))) rfl rfl rfl (by decide +kernel) ⟨Nat.le_of_ble_eq_true rfl, Nat.le_of_ble_eq_true rfl⟩) (pv_ofE X.same (hEw _ _ hS) hP hK hD (va_recv hK hP (ci := 12) (q0 := 0) rfl rfl)) rfl rfl hl.1 rfl (lv_room (Nat.le_of_ble_eq_true rfl)) d_Mo_inode_163 ⟨by decide, by decide⟩) hS (fun q _ h => hFc q h) hFc (fun u t H locs ht hvm hw hB hz1 hk1 hS => ?_)
      obtain ⟨hP, -, hD⟩ := hB
      rw [ht] at hP
      have hD := lx_dj hD hFc
      refine lv_bipush (v := 12) hx hb d_Mo_inode_166 (by decide) ?_
      refine lv_istore (lv' := [(16, .int 12), (15, .int r_16), (0, .ref M.o), (12, .ref M.a_list), (13, .int y_13), (14, .int y_14)]) hx hb d_Mo_inode_168 hl (by decide) rfl (fun ls hl => ?_)
      exact hB_170 K y_13 y_14 r_16 12 S_17 _ _ _ h hP hD hS (lv_sub hl [2, 3, 4, 5, 1, 0] rfl)
  have hB_99 : ∀ (k : Nat), ∀ (y_13 : Int32) (y_14 : Int32) (y_15 : Int32) (S : MS) (H : Heap) (locs : List Loc) (ls : Array Slot), f_Mo_inode_list_99 K k y_13 y_14 y_15 S = some S' → va_P (dC, dI) classes (wM M S) H → va_D A (wM M S) → va_S A s.heap H locs → lv_has ls 18 [(0, .ref M.o), (12, .ref M.a_list), (13, .int y_13), (14, .int y_14), (15, .int y_15)] → W p l e ({ frames := 2, cells := 0, slots := 0, locals := 42 }) s m ([.ref M.o, .int p0, .int p1, .int p2, .long p3, .long p4, .long p5, .long p6, .ref M.a_list, .int p8] : List Value).toArray below meth c H locs 0 0 Q (F0 m 99 ls []) := by
    intro k
    induction k with
    | zero => intro y_13 y_14 y_15 S H locs ls h; exact lf_no h
    | succ k hr_99 =>
      intro y_13 y_14 y_15 S H locs ls h hP hD hS hl
      rw [f_Mo_inode_list_99] at h
      refine lv_iload hx hb d_Mo_inode_99 (lv_at hl 4 rfl) ?_
      refine lv_iload hx hb d_Mo_inode_101 (lv_at hl 2 rfl) ?_
      refine lv_icmp_ge (tgt := 140) hx hb d_Mo_inode_103 (by decide) (fun c_10 => ?_) (fun c_10 => ?_)
      · have h := lf_t h c_10
        exact hB_140 y_13 y_14 S _ _ _ h hP hD hS (lv_sub hl [0, 1, 2, 3] rfl)
      · have h := lf_f h c_10
        refine lv_iload hx hb d_Mo_inode_106 (lv_at hl 4 rfl) ?_
        refine lv_bipush (v := 12) hx hb d_Mo_inode_108 (by decide) ?_
        refine lv_icmp_ge (tgt := 140) hx hb d_Mo_inode_110 (by decide) (fun c_11 => ?_) (fun c_11 => ?_)
        · have h := lf_t h c_11
          exact hB_140 y_13 y_14 S _ _ _ h hP hD hS (lv_sub hl [0, 1, 2, 3] rfl)
        · have h := lf_f h c_11
          refine lv_aload_n hx hb d_Mo_inode_113 rfl (lv_at hl 0 rfl) ?_
          refine lv_iload hx hb d_Mo_inode_114 (lv_at hl 3 rfl) ?_
          refine lv_bipush (v := 40) hx hb d_Mo_inode_116 (by decide) ?_
          refine lv_iadd hx hb d_Mo_inode_118 ?_
          refine lv_iconst (v := 4) hx hb d_Mo_inode_119 (by decide) ?_
          refine lv_iload hx hb d_Mo_inode_120 (lv_at hl 4 rfl) ?_
          refine lv_imul hx hb d_Mo_inode_122 ?_
          refine lv_iadd hx hb d_Mo_inode_123 ?_
          refine lv_iconst (v := 4) hx hb d_Mo_inode_124 (by decide) ?_
          refine lv_aload hx hb d_Mo_inode_125 (lv_at hl 1 rfl) ?_
          refine lv_iload hx hb d_Mo_inode_127 (lv_at hl 4 rfl) ?_
          obtain ⟨g_12, h⟩ := lf_gE h
          refine va_iald hx hb hK hP 27 26 rfl rfl g_12 d_Mo_inode_129 ?_
          refine lv_i2l hx hb d_Mo_inode_130 rfl ?_
          obtain ⟨S_13, hc_13, h⟩ := lf_bE h
          have hFc := lx_free hD hS hA
          refine va_callv (va_runV (As := [.int ((y_14 + 40) + (4 * y_15)), .int 4, .long ((S.v_list y_15.toNatClampNeg).toInt64)]) (rest := []) ⟨hx, hb, hml, hown, hts⟩ (l_Mo_lay l dC dI X _ hc_13) (cwV 3 hts (gwV good_Mq (u_Mq_Mo _ k_Mo_418) (u_Mq_Mo _ k_Mo_419) (u_Mq_Mo _ k_Mo_538) (u_Mq_Mo _ k_Mo_0) (wcs (u_Mq_Mo _ k_Mo_420) (fun _ h => h))) rfl rfl rfl (by decide +kernel) ⟨Nat.le_of_ble_eq_true rfl, Nat.le_of_ble_eq_true rfl⟩) (pv_ofE X.same (hEw _ _ hS) hP hK hD (va_recv hK hP (ci := 12) (q0 := 0) rfl rfl)) rfl rfl hl.1 rfl (lv_room (Nat.le_of_ble_eq_true rfl)) d_Mo_inode_131 ⟨by decide, by decide⟩) hS (fun q _ h => hFc q h) hFc (fun u t H locs ht hvm hw hB hz1 hk1 hS => ?_)
          obtain ⟨hP, -, hD⟩ := hB
          rw [ht] at hP
          have hD := lx_dj hD hFc
          obtain ⟨x_14, ex_14, h⟩ := lf_lX h
          refine lv_iinc (v := x_14) (lv' := [(15, .int x_14), (0, .ref M.o), (12, .ref M.a_list), (13, .int y_13), (14, .int y_14)]) hx hb d_Mo_inode_134 hl (k := 4) rfl (by rw [ex_14]; rfl) (by decide) rfl (fun ls hl => ?_)
          refine lv_goto (tgt := 99) hx hb d_Mo_inode_137 (by decide) ?_
          exact hr_99 y_13 y_14 x_14 S_13 _ _ _ h hP hD hS (lv_sub hl [1, 2, 3, 4, 0] rfl)
  rw [f_Mo_inode_list] at h
  refine lv_aload_n hx hb d_Mo_inode_0 rfl (lv_at hl 0 rfl) ?_
  refine lv_iload_n hx hb d_Mo_inode_1 rfl (lv_at hl 1 rfl) ?_
  obtain ⟨r_1, S_1, hc_1, h⟩ := lf_cE h
  have hFc := lx_free hD hS hA
  refine va_calli (va_runV (As := [.int p0]) (rest := []) ⟨hx, hb, hml, hown, hts⟩ (l_Mo_inodeAt l dC dI X _ hc_1) (cwV 1 hts (gwV good_Mq (u_Mq_Mo _ k_Mo_431) (u_Mq_Mo _ k_Mo_432) (u_Mq_Mo _ k_Mo_540) (u_Mq_Mo _ k_Mo_0) (wcs (u_Mq_Mo _ k_Mo_433) (fun _ h => h))) rfl rfl rfl (by decide +kernel) ⟨Nat.le_of_ble_eq_true rfl, Nat.le_of_ble_eq_true rfl⟩) (pv_ofE X.same (hEw _ _ hS) hP hK hD (va_recv hK hP (ci := 12) (q0 := 0) rfl rfl)) rfl rfl hl.1 rfl (lv_room (Nat.le_of_ble_eq_true rfl)) d_Mo_inode_2 ⟨by decide, by decide⟩) hS (fun q _ h => hFc q h) hFc (fun r_ u t H locs ht hvm hw hB hz1 hk1 hS => ?_)
  rw [hw]
  obtain ⟨hP, -, hD⟩ := hB
  rw [ht] at hP
  have hD := lx_dj hD hFc
  refine lv_istore (lv' := [(14, .int r_1), (0, .ref M.o), (1, .int p0), (2, .int p1), (3, .int p2), (4, .long p3), (6, .long p4), (8, .long p5), (10, .long p6), (12, .ref M.a_list), (13, .int p8)]) hx hb d_Mo_inode_5 hl (by decide) rfl (fun ls hl => ?_)
  refine lv_aload_n hx hb d_Mo_inode_7 rfl (lv_at hl 1 rfl) ?_
  refine lv_iload hx hb d_Mo_inode_8 (lv_at hl 0 rfl) ?_
  refine lv_iconst (v := 2) hx hb d_Mo_inode_10 (by decide) ?_
  refine lv_iload_n hx hb d_Mo_inode_11 rfl (lv_at hl 3 rfl) ?_
  refine lv_i2l hx hb d_Mo_inode_12 rfl ?_
  obtain ⟨S_2, hc_2, h⟩ := lf_bE h
  have hFc := lx_free hD hS hA
  refine va_callv (va_runV (As := [.int r_1, .int 2, .long p1.toInt64]) (rest := []) ⟨hx, hb, hml, hown, hts⟩ (l_Mo_lay l dC dI X _ hc_2) (cwV 3 hts (gwV good_Mq (u_Mq_Mo _ k_Mo_418) (u_Mq_Mo _ k_Mo_419) (u_Mq_Mo _ k_Mo_538) (u_Mq_Mo _ k_Mo_0) (wcs (u_Mq_Mo _ k_Mo_420) (fun _ h => h))) rfl rfl rfl (by decide +kernel) ⟨Nat.le_of_ble_eq_true rfl, Nat.le_of_ble_eq_true rfl⟩) (pv_ofE X.same (hEw _ _ hS) hP hK hD (va_recv hK hP (ci := 12) (q0 := 0) rfl rfl)) rfl rfl hl.1 rfl (lv_room (Nat.le_of_ble_eq_true rfl)) d_Mo_inode_13 ⟨by decide, by decide⟩) hS (fun q _ h => hFc q h) hFc (fun u t H locs ht hvm hw hB hz1 hk1 hS => ?_)
  obtain ⟨hP, -, hD⟩ := hB
  rw [ht] at hP
  have hD := lx_dj hD hFc
  refine lv_aload_n hx hb d_Mo_inode_16 rfl (lv_at hl 1 rfl) ?_
  refine lv_iload hx hb d_Mo_inode_17 (lv_at hl 0 rfl) ?_
  refine lv_iconst (v := 4) hx hb d_Mo_inode_19 (by decide) ?_
  refine lv_iadd hx hb d_Mo_inode_20 ?_
  refine lv_iconst (v := 4) hx hb d_Mo_inode_21 (by decide) ?_
  refine lv_lload hx hb d_Mo_inode_22 (lv_at hl 8 rfl) ?_
  obtain ⟨S_3, hc_3, h⟩ := lf_bE h
  have hFc := lx_free hD hS hA
  refine va_callv (va_runV (As := [.int (r_1 + 4), .int 4, .long p6]) (rest := []) ⟨hx, hb, hml, hown, hts⟩ (l_Mo_lay l dC dI X _ hc_3) (cwV 3 hts (gwV good_Mq (u_Mq_Mo _ k_Mo_418) (u_Mq_Mo _ k_Mo_419) (u_Mq_Mo _ k_Mo_538) (u_Mq_Mo _ k_Mo_0) (wcs (u_Mq_Mo _ k_Mo_420) (fun _ h => h))) rfl rfl rfl (by decide +kernel) ⟨Nat.le_of_ble_eq_true rfl, Nat.le_of_ble_eq_true rfl⟩) (pv_ofE X.same (hEw _ _ hS) hP hK hD (va_recv hK hP (ci := 12) (q0 := 0) rfl rfl)) rfl rfl hl.1 rfl (lv_room (Nat.le_of_ble_eq_true rfl)) d_Mo_inode_24 ⟨by decide, by decide⟩) hS (fun q _ h => hFc q h) hFc (fun u t H locs ht hvm hw hB hz1 hk1 hS => ?_)
  obtain ⟨hP, -, hD⟩ := hB
  rw [ht] at hP
  have hD := lx_dj hD hFc
  refine lv_aload_n hx hb d_Mo_inode_27 rfl (lv_at hl 1 rfl) ?_
  refine lv_iload hx hb d_Mo_inode_28 (lv_at hl 0 rfl) ?_
  refine lv_bipush (v := 8) hx hb d_Mo_inode_30 (by decide) ?_
  refine lv_iadd hx hb d_Mo_inode_32 ?_
  refine lv_iconst (v := 4) hx hb d_Mo_inode_33 (by decide) ?_
  refine lv_lload hx hb d_Mo_inode_34 (lv_at hl 5 rfl) ?_
  obtain ⟨S_4, hc_4, h⟩ := lf_bE h
  have hFc := lx_free hD hS hA
  refine va_callv (va_runV (As := [.int (r_1 + 8), .int 4, .long p3]) (rest := []) ⟨hx, hb, hml, hown, hts⟩ (l_Mo_lay l dC dI X _ hc_4) (cwV 3 hts (gwV good_Mq (u_Mq_Mo _ k_Mo_418) (u_Mq_Mo _ k_Mo_419) (u_Mq_Mo _ k_Mo_538) (u_Mq_Mo _ k_Mo_0) (wcs (u_Mq_Mo _ k_Mo_420) (fun _ h => h))) rfl rfl rfl (by decide +kernel) ⟨Nat.le_of_ble_eq_true rfl, Nat.le_of_ble_eq_true rfl⟩) (pv_ofE X.same (hEw _ _ hS) hP hK hD (va_recv hK hP (ci := 12) (q0 := 0) rfl rfl)) rfl rfl hl.1 rfl (lv_room (Nat.le_of_ble_eq_true rfl)) d_Mo_inode_36 ⟨by decide, by decide⟩) hS (fun q _ h => hFc q h) hFc (fun u t H locs ht hvm hw hB hz1 hk1 hS => ?_)
  obtain ⟨hP, -, hD⟩ := hB
  rw [ht] at hP
  have hD := lx_dj hD hFc
  refine lv_aload_n hx hb d_Mo_inode_39 rfl (lv_at hl 1 rfl) ?_
  refine lv_iload hx hb d_Mo_inode_40 (lv_at hl 0 rfl) ?_
  refine lv_bipush (v := 12) hx hb d_Mo_inode_42 (by decide) ?_
  refine lv_iadd hx hb d_Mo_inode_44 ?_
  refine lv_iconst (v := 4) hx hb d_Mo_inode_45 (by decide) ?_
  refine lv_lload hx hb d_Mo_inode_46 (lv_at hl 6 rfl) ?_
  obtain ⟨S_5, hc_5, h⟩ := lf_bE h
  have hFc := lx_free hD hS hA
  refine va_callv (va_runV (As := [.int (r_1 + 12), .int 4, .long p4]) (rest := []) ⟨hx, hb, hml, hown, hts⟩ (l_Mo_lay l dC dI X _ hc_5) (cwV 3 hts (gwV good_Mq (u_Mq_Mo _ k_Mo_418) (u_Mq_Mo _ k_Mo_419) (u_Mq_Mo _ k_Mo_538) (u_Mq_Mo _ k_Mo_0) (wcs (u_Mq_Mo _ k_Mo_420) (fun _ h => h))) rfl rfl rfl (by decide +kernel) ⟨Nat.le_of_ble_eq_true rfl, Nat.le_of_ble_eq_true rfl⟩) (pv_ofE X.same (hEw _ _ hS) hP hK hD (va_recv hK hP (ci := 12) (q0 := 0) rfl rfl)) rfl rfl hl.1 rfl (lv_room (Nat.le_of_ble_eq_true rfl)) d_Mo_inode_48 ⟨by decide, by decide⟩) hS (fun q _ h => hFc q h) hFc (fun u t H locs ht hvm hw hB hz1 hk1 hS => ?_)
  obtain ⟨hP, -, hD⟩ := hB
  rw [ht] at hP
  have hD := lx_dj hD hFc
  refine lv_aload_n hx hb d_Mo_inode_51 rfl (lv_at hl 1 rfl) ?_
  refine lv_iload hx hb d_Mo_inode_52 (lv_at hl 0 rfl) ?_
  refine lv_bipush (v := 16) hx hb d_Mo_inode_54 (by decide) ?_
  refine lv_iadd hx hb d_Mo_inode_56 ?_
  refine lv_iconst (v := 4) hx hb d_Mo_inode_57 (by decide) ?_
  refine lv_lload hx hb d_Mo_inode_58 (lv_at hl 7 rfl) ?_
  obtain ⟨S_6, hc_6, h⟩ := lf_bE h
  have hFc := lx_free hD hS hA
  refine va_callv (va_runV (As := [.int (r_1 + 16), .int 4, .long p5]) (rest := []) ⟨hx, hb, hml, hown, hts⟩ (l_Mo_lay l dC dI X _ hc_6) (cwV 3 hts (gwV good_Mq (u_Mq_Mo _ k_Mo_418) (u_Mq_Mo _ k_Mo_419) (u_Mq_Mo _ k_Mo_538) (u_Mq_Mo _ k_Mo_0) (wcs (u_Mq_Mo _ k_Mo_420) (fun _ h => h))) rfl rfl rfl (by decide +kernel) ⟨Nat.le_of_ble_eq_true rfl, Nat.le_of_ble_eq_true rfl⟩) (pv_ofE X.same (hEw _ _ hS) hP hK hD (va_recv hK hP (ci := 12) (q0 := 0) rfl rfl)) rfl rfl hl.1 rfl (lv_room (Nat.le_of_ble_eq_true rfl)) d_Mo_inode_60 ⟨by decide, by decide⟩) hS (fun q _ h => hFc q h) hFc (fun u t H locs ht hvm hw hB hz1 hk1 hS => ?_)
  obtain ⟨hP, -, hD⟩ := hB
  rw [ht] at hP
  have hD := lx_dj hD hFc
  refine lv_aload_n hx hb d_Mo_inode_63 rfl (lv_at hl 1 rfl) ?_
  refine lv_iload hx hb d_Mo_inode_64 (lv_at hl 0 rfl) ?_
  refine lv_bipush (v := 26) hx hb d_Mo_inode_66 (by decide) ?_
  refine lv_iadd hx hb d_Mo_inode_68 ?_
  refine lv_iconst (v := 2) hx hb d_Mo_inode_69 (by decide) ?_
  refine lv_iload_n hx hb d_Mo_inode_70 rfl (lv_at hl 4 rfl) ?_
  refine lv_i2l hx hb d_Mo_inode_71 rfl ?_
  obtain ⟨S_7, hc_7, h⟩ := lf_bE h
  have hFc := lx_free hD hS hA
  refine va_callv (va_runV (As := [.int (r_1 + 26), .int 2, .long p2.toInt64]) (rest := []) ⟨hx, hb, hml, hown, hts⟩ (l_Mo_lay l dC dI X _ hc_7) (cwV 3 hts (gwV good_Mq (u_Mq_Mo _ k_Mo_418) (u_Mq_Mo _ k_Mo_419) (u_Mq_Mo _ k_Mo_538) (u_Mq_Mo _ k_Mo_0) (wcs (u_Mq_Mo _ k_Mo_420) (fun _ h => h))) rfl rfl rfl (by decide +kernel) ⟨Nat.le_of_ble_eq_true rfl, Nat.le_of_ble_eq_true rfl⟩) (pv_ofE X.same (hEw _ _ hS) hP hK hD (va_recv hK hP (ci := 12) (q0 := 0) rfl rfl)) rfl rfl hl.1 rfl (lv_room (Nat.le_of_ble_eq_true rfl)) d_Mo_inode_72 ⟨by decide, by decide⟩) hS (fun q _ h => hFc q h) hFc (fun u t H locs ht hvm hw hB hz1 hk1 hS => ?_)
  obtain ⟨hP, -, hD⟩ := hB
  rw [ht] at hP
  have hD := lx_dj hD hFc
  refine lv_aload_n hx hb d_Mo_inode_75 rfl (lv_at hl 1 rfl) ?_
  refine lv_iload hx hb d_Mo_inode_76 (lv_at hl 0 rfl) ?_
  refine lv_bipush (v := 28) hx hb d_Mo_inode_78 (by decide) ?_
  refine lv_iadd hx hb d_Mo_inode_80 ?_
  refine lv_iconst (v := 4) hx hb d_Mo_inode_81 (by decide) ?_
  refine lv_iconst (v := 2) hx hb d_Mo_inode_82 (by decide) ?_
  refine lv_iload hx hb d_Mo_inode_83 (lv_at hl 10 rfl) ?_
  refine lv_iload hx hb d_Mo_inode_85 (lv_at hl 10 rfl) ?_
  obtain ⟨r_8, hc_8, h⟩ := lf_bE h
  have hFc := lx_free0 hS hA
  refine va_calli (va_runS (As := [.int p8]) (rest := [.int p8, .int 2, .int 4, .int (r_1 + 28), .ref M.o]) ⟨hx, hb, hml, hown, hts⟩ (l_Mo_indirect l dC dI  _ hc_8) (va_cwS 1 hts (gwS good_Mq (u_Mq_Mo _ k_Mo_394) (u_Mq_Mo _ k_Mo_395) (u_Mq_Mo _ k_Mo_0) (wcs (u_Mq_Mo _ k_Mo_396) (fun _ h => h))) rfl rfl rfl (by decide +kernel) ⟨Nat.le_of_ble_eq_true rfl, Nat.le_of_ble_eq_true rfl⟩) (ps_of (W := []) (tys := []) (hP.sub (ws' := []) [] rfl) (hK.sub [] rfl) (hD.sub (ws' := []) [] (by decide) rfl)) rfl rfl hl.1 rfl (lv_room (Nat.le_of_ble_eq_true rfl)) d_Mo_inode_87 ⟨by decide, by decide⟩) hS (fun q _ h => hFc q h) hFc (fun r_ u t H locs ht hvm hw hB hz1 hk1 hS => ?_)
  rw [hw]
  have hP := lx_stat (A := A) hP hk1
  refine lv_iadd hx hb d_Mo_inode_90 ?_
  refine lv_imul hx hb d_Mo_inode_91 ?_
  refine lv_i2l hx hb d_Mo_inode_92 rfl ?_
  obtain ⟨S_9, hc_9, h⟩ := lf_bE h
  have hFc := lx_free hD hS hA
  refine va_callv (va_runV (As := [.int (r_1 + 28), .int 4, .long ((2 * (p8 + r_8)).toInt64)]) (rest := []) ⟨hx, hb, hml, hown, hts⟩ (l_Mo_lay l dC dI X _ hc_9) (cwV 3 hts (gwV good_Mq (u_Mq_Mo _ k_Mo_418) (u_Mq_Mo _ k_Mo_419) (u_Mq_Mo _ k_Mo_538) (u_Mq_Mo _ k_Mo_0) (wcs (u_Mq_Mo _ k_Mo_420) (fun _ h => h))) rfl rfl rfl (by decide +kernel) ⟨Nat.le_of_ble_eq_true rfl, Nat.le_of_ble_eq_true rfl⟩) (pv_ofE X.same (hEw _ _ hS) hP hK hD (va_recv hK hP (ci := 12) (q0 := 0) rfl rfl)) rfl rfl hl.1 rfl (lv_room (Nat.le_of_ble_eq_true rfl)) d_Mo_inode_93 ⟨by decide, by decide⟩) hS (fun q _ h => hFc q h) hFc (fun u t H locs ht hvm hw hB hz1 hk1 hS => ?_)
  obtain ⟨hP, -, hD⟩ := hB
  rw [ht] at hP
  have hD := lx_dj hD hFc
  refine lv_iconst (v := 0) hx hb d_Mo_inode_96 (by decide) ?_
  refine lv_istore (lv' := [(15, .int 0), (14, .int r_1), (0, .ref M.o), (1, .int p0), (2, .int p1), (3, .int p2), (4, .long p3), (6, .long p4), (8, .long p5), (10, .long p6), (12, .ref M.a_list), (13, .int p8)]) hx hb d_Mo_inode_97 hl (by decide) rfl (fun ls hl => ?_)
  exact hB_99 K p8 r_1 0 S_9 _ _ _ h hP hD hS (lv_sub hl [2, 10, 11, 1, 0] rfl)
