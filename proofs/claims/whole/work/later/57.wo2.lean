def wo_unit (p0 : Int32) : Int32 := if p0 = 34 then if p0 < 32 then (0) else if 65533 < p0 then (0) else (0) else if p0 = 42 then if p0 < 32 then (0) else if 65533 < p0 then (0) else (0) else if p0 = 47 then if p0 < 32 then (0) else if 65533 < p0 then (0) else (0) else if p0 = 58 then if p0 < 32 then (0) else if 65533 < p0 then (0) else (0) else if p0 = 60 then if p0 < 32 then (0) else if 65533 < p0 then (0) else (0) else if p0 = 62 then if p0 < 32 then (0) else if 65533 < p0 then (0) else (0) else if p0 = 63 then if p0 < 32 then (0) else if 65533 < p0 then (0) else (0) else if p0 = 92 then if p0 < 32 then (0) else if 65533 < p0 then (0) else (0) else if p0 = 124 then if p0 < 32 then (0) else if 65533 < p0 then (0) else (0) else if p0 = 127 then if p0 < 32 then (0) else if 65533 < p0 then (0) else (0) else if p0 < 32 then (0) else if 65533 < p0 then (0) else if p0 < 55296 then (1) else if p0 ≤ 57343 then (0) else (1)
set_option maxHeartbeats 4000000 in
set_option maxRecDepth 100000 in
theorem c_Wo_mayBeUnit (l : Launch) (dC : Nat → ClassId) (dI : Nat → Nat → Nat) (sz : Nat) (p0 : Int32) : Met l y_Wo_mayBeUnit (.code y_Wo_mayBeUnit b_Wo_mayBeUnit 2 (some .boolean) :: V_Wo) ({ frames := 0, cells := 0, slots := 0, locals := 0 }) (va_Pc [.int p0] (fun U => U.heap.size = sz ∧ at_ (dC, dI) (fun _ => True) [] [] U)) (va_Qi (fun (r : Int32) (u : Unit) => r = wo_unit p0) (fun (u : Unit) t => at_ (dC, dI) (va_A [] sz) [] [] t) (va_A [] sz)) 0 0 (va_A [] sz) := by
  refine Met.ofW (cc := b_Wo_mayBeUnit) (maxL := 2) (ret := (some .boolean)) (by decide) rfl ?_
  intro p e s m args below meth c s₁ B hml hv
  obtain ⟨rfl, hsz, hP, hK, hD0⟩ := hv
  have hx := B.exec
  have hb := B.bytes
  have hr := B.returns
  have hts0 := atoms_spec (ws := .code y_Wo_mayBeUnit b_Wo_mayBeUnit 2 (some .boolean) :: V_Wo) B.pre
  have hts : ∀ w ∈ V_Wo, w.before ([.int p0] : List Value).toArray s = true := fun w h => hts0 w (List.mem_cons_of_mem _ h)
  have hown : s.vm.findClass R_Wo = some m.cls := findClass_of_methodNamed B.named
  have hlocks := B.notSynchronized
  subst hsz
  have hD := hD0.self (sz := s.heap.size)
  generalize hAe : va_A [] s.heap.size = A at hD ⊢
  have hA : ∀ q : Nat, s.heap.size ≤ q → A q := fun q h => by rw [← hAe]; exact Or.inr h
  have hS : va_S A s.heap s.heap [] := va_S.rf
  have hP : va_P (dC, dI) classes [] s.heap := hP
  have hK : va_K (dC, dI) classes [] s := hK
  have hl := lv_entry ([.int p0]) (n := 2) (Nat.le_of_ble_eq_true rfl)
  rw [lg_entry_eq]
  generalize (lg_sl ([.int p0]) ++ List.replicate (2 - (lg_sl ([.int p0])).length) Slot.unset).toArray = ls at hl ⊢
  have hl : lv_has ls 2 [(0, .int p0)] := hl
  refine lv_iload_n hx hb d_Wo_mayBeUnit_0 rfl (lv_at hl 0 rfl) ?_
  refine lv_bipush (v := 34) hx hb d_Wo_mayBeUnit_1 (by decide) ?_
  refine lv_icmp_eq (tgt := 60) hx hb d_Wo_mayBeUnit_3 (by decide) (fun c_1 => ?_) (fun c_1 => ?_)
  · refine lv_iconst (v := 1) hx hb d_Wo_mayBeUnit_60 (by decide) ?_
    refine lv_goto (tgt := 65) hx hb d_Wo_mayBeUnit_61 (by decide) ?_
    refine lv_istore_n (lv' := [(1, .int 1), (0, .int p0)]) hx hb d_Wo_mayBeUnit_65 rfl hl (by decide) rfl (fun ls hl => ?_)
    refine lv_iload_n hx hb d_Wo_mayBeUnit_66 rfl (lv_at hl 1 rfl) ?_
    refine lv_bipush (v := 32) hx hb d_Wo_mayBeUnit_67 (by decide) ?_
    refine lv_icmp_lt (tgt := 98) hx hb d_Wo_mayBeUnit_69 (by decide) (fun c_2 => ?_) (fun c_2 => ?_)
    · refine lv_iconst (v := 0) hx hb d_Wo_mayBeUnit_98 (by decide) ?_
      exact W.zret (v := 0) hx hb hr rfl (fun t ht hW => ⟨⟨0, (), rfl, by rw [wo_unit, if_pos c_1, if_pos c_2], by rw [ht]; exact hP, va_K.moved hW.alike hK, hD⟩, hS.F ht⟩) hS.2.2 d_Wo_mayBeUnit_99
    · refine lv_iload_n hx hb d_Wo_mayBeUnit_72 rfl (lv_at hl 1 rfl) ?_
      refine lv_ldc (v := 65533) hx hb hown (hts _ (k_Wo_14)) d_Wo_mayBeUnit_73 ?_
      refine lv_icmp_gt (tgt := 98) hx hb d_Wo_mayBeUnit_75 (by decide) (fun c_3 => ?_) (fun c_3 => ?_)
      · refine lv_iconst (v := 0) hx hb d_Wo_mayBeUnit_98 (by decide) ?_
        exact W.zret (v := 0) hx hb hr rfl (fun t ht hW => ⟨⟨0, (), rfl, by rw [wo_unit, if_pos c_1, if_neg c_2, if_pos c_3], by rw [ht]; exact hP, va_K.moved hW.alike hK, hD⟩, hS.F ht⟩) hS.2.2 d_Wo_mayBeUnit_99
      · refine lv_iload_n hx hb d_Wo_mayBeUnit_78 rfl (lv_at hl 0 rfl) ?_
        refine lv_if_ne (tgt := 98) hx hb d_Wo_mayBeUnit_79 (by decide) (fun c_4 => ?_) (fun c_4 => ?_)
        · refine lv_iconst (v := 0) hx hb d_Wo_mayBeUnit_98 (by decide) ?_
          exact W.zret (v := 0) hx hb hr rfl (fun t ht hW => ⟨⟨0, (), rfl, by rw [wo_unit, if_pos c_1, if_neg c_2, if_neg c_3], by rw [ht]; exact hP, va_K.moved hW.alike hK, hD⟩, hS.F ht⟩) hS.2.2 d_Wo_mayBeUnit_99
        · exact absurd c_4 (by decide)
  · refine lv_iload_n hx hb d_Wo_mayBeUnit_6 rfl (lv_at hl 0 rfl) ?_
    refine lv_bipush (v := 42) hx hb d_Wo_mayBeUnit_7 (by decide) ?_
    refine lv_icmp_eq (tgt := 60) hx hb d_Wo_mayBeUnit_9 (by decide) (fun c_5 => ?_) (fun c_5 => ?_)
    · refine lv_iconst (v := 1) hx hb d_Wo_mayBeUnit_60 (by decide) ?_
      refine lv_goto (tgt := 65) hx hb d_Wo_mayBeUnit_61 (by decide) ?_
      refine lv_istore_n (lv' := [(1, .int 1), (0, .int p0)]) hx hb d_Wo_mayBeUnit_65 rfl hl (by decide) rfl (fun ls hl => ?_)
      refine lv_iload_n hx hb d_Wo_mayBeUnit_66 rfl (lv_at hl 1 rfl) ?_
      refine lv_bipush (v := 32) hx hb d_Wo_mayBeUnit_67 (by decide) ?_
      refine lv_icmp_lt (tgt := 98) hx hb d_Wo_mayBeUnit_69 (by decide) (fun c_6 => ?_) (fun c_6 => ?_)
      · refine lv_iconst (v := 0) hx hb d_Wo_mayBeUnit_98 (by decide) ?_
        exact W.zret (v := 0) hx hb hr rfl (fun t ht hW => ⟨⟨0, (), rfl, by rw [wo_unit, if_neg c_1, if_pos c_5, if_pos c_6], by rw [ht]; exact hP, va_K.moved hW.alike hK, hD⟩, hS.F ht⟩) hS.2.2 d_Wo_mayBeUnit_99
      · refine lv_iload_n hx hb d_Wo_mayBeUnit_72 rfl (lv_at hl 1 rfl) ?_
        refine lv_ldc (v := 65533) hx hb hown (hts _ (k_Wo_14)) d_Wo_mayBeUnit_73 ?_
        refine lv_icmp_gt (tgt := 98) hx hb d_Wo_mayBeUnit_75 (by decide) (fun c_7 => ?_) (fun c_7 => ?_)
        · refine lv_iconst (v := 0) hx hb d_Wo_mayBeUnit_98 (by decide) ?_
          exact W.zret (v := 0) hx hb hr rfl (fun t ht hW => ⟨⟨0, (), rfl, by rw [wo_unit, if_neg c_1, if_pos c_5, if_neg c_6, if_pos c_7], by rw [ht]; exact hP, va_K.moved hW.alike hK, hD⟩, hS.F ht⟩) hS.2.2 d_Wo_mayBeUnit_99
        · refine lv_iload_n hx hb d_Wo_mayBeUnit_78 rfl (lv_at hl 0 rfl) ?_
          refine lv_if_ne (tgt := 98) hx hb d_Wo_mayBeUnit_79 (by decide) (fun c_8 => ?_) (fun c_8 => ?_)
          · refine lv_iconst (v := 0) hx hb d_Wo_mayBeUnit_98 (by decide) ?_
            exact W.zret (v := 0) hx hb hr rfl (fun t ht hW => ⟨⟨0, (), rfl, by rw [wo_unit, if_neg c_1, if_pos c_5, if_neg c_6, if_neg c_7], by rw [ht]; exact hP, va_K.moved hW.alike hK, hD⟩, hS.F ht⟩) hS.2.2 d_Wo_mayBeUnit_99
          · exact absurd c_8 (by decide)
    · refine lv_iload_n hx hb d_Wo_mayBeUnit_12 rfl (lv_at hl 0 rfl) ?_
      refine lv_bipush (v := 47) hx hb d_Wo_mayBeUnit_13 (by decide) ?_
      refine lv_icmp_eq (tgt := 60) hx hb d_Wo_mayBeUnit_15 (by decide) (fun c_9 => ?_) (fun c_9 => ?_)
      · refine lv_iconst (v := 1) hx hb d_Wo_mayBeUnit_60 (by decide) ?_
        refine lv_goto (tgt := 65) hx hb d_Wo_mayBeUnit_61 (by decide) ?_
        refine lv_istore_n (lv' := [(1, .int 1), (0, .int p0)]) hx hb d_Wo_mayBeUnit_65 rfl hl (by decide) rfl (fun ls hl => ?_)
        refine lv_iload_n hx hb d_Wo_mayBeUnit_66 rfl (lv_at hl 1 rfl) ?_
        refine lv_bipush (v := 32) hx hb d_Wo_mayBeUnit_67 (by decide) ?_
        refine lv_icmp_lt (tgt := 98) hx hb d_Wo_mayBeUnit_69 (by decide) (fun c_10 => ?_) (fun c_10 => ?_)
        · refine lv_iconst (v := 0) hx hb d_Wo_mayBeUnit_98 (by decide) ?_
          exact W.zret (v := 0) hx hb hr rfl (fun t ht hW => ⟨⟨0, (), rfl, by rw [wo_unit, if_neg c_1, if_neg c_5, if_pos c_9, if_pos c_10], by rw [ht]; exact hP, va_K.moved hW.alike hK, hD⟩, hS.F ht⟩) hS.2.2 d_Wo_mayBeUnit_99
        · refine lv_iload_n hx hb d_Wo_mayBeUnit_72 rfl (lv_at hl 1 rfl) ?_
          refine lv_ldc (v := 65533) hx hb hown (hts _ (k_Wo_14)) d_Wo_mayBeUnit_73 ?_
          refine lv_icmp_gt (tgt := 98) hx hb d_Wo_mayBeUnit_75 (by decide) (fun c_11 => ?_) (fun c_11 => ?_)
          · refine lv_iconst (v := 0) hx hb d_Wo_mayBeUnit_98 (by decide) ?_
            exact W.zret (v := 0) hx hb hr rfl (fun t ht hW => ⟨⟨0, (), rfl, by rw [wo_unit, if_neg c_1, if_neg c_5, if_pos c_9, if_neg c_10, if_pos c_11], by rw [ht]; exact hP, va_K.moved hW.alike hK, hD⟩, hS.F ht⟩) hS.2.2 d_Wo_mayBeUnit_99
          · refine lv_iload_n hx hb d_Wo_mayBeUnit_78 rfl (lv_at hl 0 rfl) ?_
            refine lv_if_ne (tgt := 98) hx hb d_Wo_mayBeUnit_79 (by decide) (fun c_12 => ?_) (fun c_12 => ?_)
            · refine lv_iconst (v := 0) hx hb d_Wo_mayBeUnit_98 (by decide) ?_
              exact W.zret (v := 0) hx hb hr rfl (fun t ht hW => ⟨⟨0, (), rfl, by rw [wo_unit, if_neg c_1, if_neg c_5, if_pos c_9, if_neg c_10, if_neg c_11], by rw [ht]; exact hP, va_K.moved hW.alike hK, hD⟩, hS.F ht⟩) hS.2.2 d_Wo_mayBeUnit_99
            · exact absurd c_12 (by decide)
      · refine lv_iload_n hx hb d_Wo_mayBeUnit_18 rfl (lv_at hl 0 rfl) ?_
        refine lv_bipush (v := 58) hx hb d_Wo_mayBeUnit_19 (by decide) ?_
        refine lv_icmp_eq (tgt := 60) hx hb d_Wo_mayBeUnit_21 (by decide) (fun c_13 => ?_) (fun c_13 => ?_)
        · refine lv_iconst (v := 1) hx hb d_Wo_mayBeUnit_60 (by decide) ?_
          refine lv_goto (tgt := 65) hx hb d_Wo_mayBeUnit_61 (by decide) ?_
          refine lv_istore_n (lv' := [(1, .int 1), (0, .int p0)]) hx hb d_Wo_mayBeUnit_65 rfl hl (by decide) rfl (fun ls hl => ?_)
          refine lv_iload_n hx hb d_Wo_mayBeUnit_66 rfl (lv_at hl 1 rfl) ?_
          refine lv_bipush (v := 32) hx hb d_Wo_mayBeUnit_67 (by decide) ?_
          refine lv_icmp_lt (tgt := 98) hx hb d_Wo_mayBeUnit_69 (by decide) (fun c_14 => ?_) (fun c_14 => ?_)
          · refine lv_iconst (v := 0) hx hb d_Wo_mayBeUnit_98 (by decide) ?_
            exact W.zret (v := 0) hx hb hr rfl (fun t ht hW => ⟨⟨0, (), rfl, by rw [wo_unit, if_neg c_1, if_neg c_5, if_neg c_9, if_pos c_13, if_pos c_14], by rw [ht]; exact hP, va_K.moved hW.alike hK, hD⟩, hS.F ht⟩) hS.2.2 d_Wo_mayBeUnit_99
          · refine lv_iload_n hx hb d_Wo_mayBeUnit_72 rfl (lv_at hl 1 rfl) ?_
            refine lv_ldc (v := 65533) hx hb hown (hts _ (k_Wo_14)) d_Wo_mayBeUnit_73 ?_
            refine lv_icmp_gt (tgt := 98) hx hb d_Wo_mayBeUnit_75 (by decide) (fun c_15 => ?_) (fun c_15 => ?_)
            · refine lv_iconst (v := 0) hx hb d_Wo_mayBeUnit_98 (by decide) ?_
              exact W.zret (v := 0) hx hb hr rfl (fun t ht hW => ⟨⟨0, (), rfl, by rw [wo_unit, if_neg c_1, if_neg c_5, if_neg c_9, if_pos c_13, if_neg c_14, if_pos c_15], by rw [ht]; exact hP, va_K.moved hW.alike hK, hD⟩, hS.F ht⟩) hS.2.2 d_Wo_mayBeUnit_99
            · refine lv_iload_n hx hb d_Wo_mayBeUnit_78 rfl (lv_at hl 0 rfl) ?_
              refine lv_if_ne (tgt := 98) hx hb d_Wo_mayBeUnit_79 (by decide) (fun c_16 => ?_) (fun c_16 => ?_)
              · refine lv_iconst (v := 0) hx hb d_Wo_mayBeUnit_98 (by decide) ?_
                exact W.zret (v := 0) hx hb hr rfl (fun t ht hW => ⟨⟨0, (), rfl, by rw [wo_unit, if_neg c_1, if_neg c_5, if_neg c_9, if_pos c_13, if_neg c_14, if_neg c_15], by rw [ht]; exact hP, va_K.moved hW.alike hK, hD⟩, hS.F ht⟩) hS.2.2 d_Wo_mayBeUnit_99
              · exact absurd c_16 (by decide)
        · refine lv_iload_n hx hb d_Wo_mayBeUnit_24 rfl (lv_at hl 0 rfl) ?_
          refine lv_bipush (v := 60) hx hb d_Wo_mayBeUnit_25 (by decide) ?_
          refine lv_icmp_eq (tgt := 60) hx hb d_Wo_mayBeUnit_27 (by decide) (fun c_17 => ?_) (fun c_17 => ?_)
          · refine lv_iconst (v := 1) hx hb d_Wo_mayBeUnit_60 (by decide) ?_
            refine lv_goto (tgt := 65) hx hb d_Wo_mayBeUnit_61 (by decide) ?_
            refine lv_istore_n (lv' := [(1, .int 1), (0, .int p0)]) hx hb d_Wo_mayBeUnit_65 rfl hl (by decide) rfl (fun ls hl => ?_)
            refine lv_iload_n hx hb d_Wo_mayBeUnit_66 rfl (lv_at hl 1 rfl) ?_
            refine lv_bipush (v := 32) hx hb d_Wo_mayBeUnit_67 (by decide) ?_
            refine lv_icmp_lt (tgt := 98) hx hb d_Wo_mayBeUnit_69 (by decide) (fun c_18 => ?_) (fun c_18 => ?_)
            · refine lv_iconst (v := 0) hx hb d_Wo_mayBeUnit_98 (by decide) ?_
              exact W.zret (v := 0) hx hb hr rfl (fun t ht hW => ⟨⟨0, (), rfl, by rw [wo_unit, if_neg c_1, if_neg c_5, if_neg c_9, if_neg c_13, if_pos c_17, if_pos c_18], by rw [ht]; exact hP, va_K.moved hW.alike hK, hD⟩, hS.F ht⟩) hS.2.2 d_Wo_mayBeUnit_99
            · refine lv_iload_n hx hb d_Wo_mayBeUnit_72 rfl (lv_at hl 1 rfl) ?_
              refine lv_ldc (v := 65533) hx hb hown (hts _ (k_Wo_14)) d_Wo_mayBeUnit_73 ?_
              refine lv_icmp_gt (tgt := 98) hx hb d_Wo_mayBeUnit_75 (by decide) (fun c_19 => ?_) (fun c_19 => ?_)
              · refine lv_iconst (v := 0) hx hb d_Wo_mayBeUnit_98 (by decide) ?_
                exact W.zret (v := 0) hx hb hr rfl (fun t ht hW => ⟨⟨0, (), rfl, by rw [wo_unit, if_neg c_1, if_neg c_5, if_neg c_9, if_neg c_13, if_pos c_17, if_neg c_18, if_pos c_19], by rw [ht]; exact hP, va_K.moved hW.alike hK, hD⟩, hS.F ht⟩) hS.2.2 d_Wo_mayBeUnit_99
              · refine lv_iload_n hx hb d_Wo_mayBeUnit_78 rfl (lv_at hl 0 rfl) ?_
                refine lv_if_ne (tgt := 98) hx hb d_Wo_mayBeUnit_79 (by decide) (fun c_20 => ?_) (fun c_20 => ?_)
                · refine lv_iconst (v := 0) hx hb d_Wo_mayBeUnit_98 (by decide) ?_
                  exact W.zret (v := 0) hx hb hr rfl (fun t ht hW => ⟨⟨0, (), rfl, by rw [wo_unit, if_neg c_1, if_neg c_5, if_neg c_9, if_neg c_13, if_pos c_17, if_neg c_18, if_neg c_19], by rw [ht]; exact hP, va_K.moved hW.alike hK, hD⟩, hS.F ht⟩) hS.2.2 d_Wo_mayBeUnit_99
                · exact absurd c_20 (by decide)
          · refine lv_iload_n hx hb d_Wo_mayBeUnit_30 rfl (lv_at hl 0 rfl) ?_
            refine lv_bipush (v := 62) hx hb d_Wo_mayBeUnit_31 (by decide) ?_
            refine lv_icmp_eq (tgt := 60) hx hb d_Wo_mayBeUnit_33 (by decide) (fun c_21 => ?_) (fun c_21 => ?_)
            · refine lv_iconst (v := 1) hx hb d_Wo_mayBeUnit_60 (by decide) ?_
              refine lv_goto (tgt := 65) hx hb d_Wo_mayBeUnit_61 (by decide) ?_
              refine lv_istore_n (lv' := [(1, .int 1), (0, .int p0)]) hx hb d_Wo_mayBeUnit_65 rfl hl (by decide) rfl (fun ls hl => ?_)
              refine lv_iload_n hx hb d_Wo_mayBeUnit_66 rfl (lv_at hl 1 rfl) ?_
              refine lv_bipush (v := 32) hx hb d_Wo_mayBeUnit_67 (by decide) ?_
              refine lv_icmp_lt (tgt := 98) hx hb d_Wo_mayBeUnit_69 (by decide) (fun c_22 => ?_) (fun c_22 => ?_)
              · refine lv_iconst (v := 0) hx hb d_Wo_mayBeUnit_98 (by decide) ?_
                exact W.zret (v := 0) hx hb hr rfl (fun t ht hW => ⟨⟨0, (), rfl, by rw [wo_unit, if_neg c_1, if_neg c_5, if_neg c_9, if_neg c_13, if_neg c_17, if_pos c_21, if_pos c_22], by rw [ht]; exact hP, va_K.moved hW.alike hK, hD⟩, hS.F ht⟩) hS.2.2 d_Wo_mayBeUnit_99
              · refine lv_iload_n hx hb d_Wo_mayBeUnit_72 rfl (lv_at hl 1 rfl) ?_
                refine lv_ldc (v := 65533) hx hb hown (hts _ (k_Wo_14)) d_Wo_mayBeUnit_73 ?_
                refine lv_icmp_gt (tgt := 98) hx hb d_Wo_mayBeUnit_75 (by decide) (fun c_23 => ?_) (fun c_23 => ?_)
                · refine lv_iconst (v := 0) hx hb d_Wo_mayBeUnit_98 (by decide) ?_
                  exact W.zret (v := 0) hx hb hr rfl (fun t ht hW => ⟨⟨0, (), rfl, by rw [wo_unit, if_neg c_1, if_neg c_5, if_neg c_9, if_neg c_13, if_neg c_17, if_pos c_21, if_neg c_22, if_pos c_23], by rw [ht]; exact hP, va_K.moved hW.alike hK, hD⟩, hS.F ht⟩) hS.2.2 d_Wo_mayBeUnit_99
                · refine lv_iload_n hx hb d_Wo_mayBeUnit_78 rfl (lv_at hl 0 rfl) ?_
                  refine lv_if_ne (tgt := 98) hx hb d_Wo_mayBeUnit_79 (by decide) (fun c_24 => ?_) (fun c_24 => ?_)
                  · refine lv_iconst (v := 0) hx hb d_Wo_mayBeUnit_98 (by decide) ?_
                    exact W.zret (v := 0) hx hb hr rfl (fun t ht hW => ⟨⟨0, (), rfl, by rw [wo_unit, if_neg c_1, if_neg c_5, if_neg c_9, if_neg c_13, if_neg c_17, if_pos c_21, if_neg c_22, if_neg c_23], by rw [ht]; exact hP, va_K.moved hW.alike hK, hD⟩, hS.F ht⟩) hS.2.2 d_Wo_mayBeUnit_99
                  · exact absurd c_24 (by decide)
            · refine lv_iload_n hx hb d_Wo_mayBeUnit_36 rfl (lv_at hl 0 rfl) ?_
              refine lv_bipush (v := 63) hx hb d_Wo_mayBeUnit_37 (by decide) ?_
              refine lv_icmp_eq (tgt := 60) hx hb d_Wo_mayBeUnit_39 (by decide) (fun c_25 => ?_) (fun c_25 => ?_)
              · refine lv_iconst (v := 1) hx hb d_Wo_mayBeUnit_60 (by decide) ?_
                refine lv_goto (tgt := 65) hx hb d_Wo_mayBeUnit_61 (by decide) ?_
                refine lv_istore_n (lv' := [(1, .int 1), (0, .int p0)]) hx hb d_Wo_mayBeUnit_65 rfl hl (by decide) rfl (fun ls hl => ?_)
                refine lv_iload_n hx hb d_Wo_mayBeUnit_66 rfl (lv_at hl 1 rfl) ?_
                refine lv_bipush (v := 32) hx hb d_Wo_mayBeUnit_67 (by decide) ?_
                refine lv_icmp_lt (tgt := 98) hx hb d_Wo_mayBeUnit_69 (by decide) (fun c_26 => ?_) (fun c_26 => ?_)
                · refine lv_iconst (v := 0) hx hb d_Wo_mayBeUnit_98 (by decide) ?_
                  exact W.zret (v := 0) hx hb hr rfl (fun t ht hW => ⟨⟨0, (), rfl, by rw [wo_unit, if_neg c_1, if_neg c_5, if_neg c_9, if_neg c_13, if_neg c_17, if_neg c_21, if_pos c_25, if_pos c_26], by rw [ht]; exact hP, va_K.moved hW.alike hK, hD⟩, hS.F ht⟩) hS.2.2 d_Wo_mayBeUnit_99
                · refine lv_iload_n hx hb d_Wo_mayBeUnit_72 rfl (lv_at hl 1 rfl) ?_
                  refine lv_ldc (v := 65533) hx hb hown (hts _ (k_Wo_14)) d_Wo_mayBeUnit_73 ?_
                  refine lv_icmp_gt (tgt := 98) hx hb d_Wo_mayBeUnit_75 (by decide) (fun c_27 => ?_) (fun c_27 => ?_)
                  · refine lv_iconst (v := 0) hx hb d_Wo_mayBeUnit_98 (by decide) ?_
                    exact W.zret (v := 0) hx hb hr rfl (fun t ht hW => ⟨⟨0, (), rfl, by rw [wo_unit, if_neg c_1, if_neg c_5, if_neg c_9, if_neg c_13, if_neg c_17, if_neg c_21, if_pos c_25, if_neg c_26, if_pos c_27], by rw [ht]; exact hP, va_K.moved hW.alike hK, hD⟩, hS.F ht⟩) hS.2.2 d_Wo_mayBeUnit_99
                  · refine lv_iload_n hx hb d_Wo_mayBeUnit_78 rfl (lv_at hl 0 rfl) ?_
                    refine lv_if_ne (tgt := 98) hx hb d_Wo_mayBeUnit_79 (by decide) (fun c_28 => ?_) (fun c_28 => ?_)
                    · refine lv_iconst (v := 0) hx hb d_Wo_mayBeUnit_98 (by decide) ?_
                      exact W.zret (v := 0) hx hb hr rfl (fun t ht hW => ⟨⟨0, (), rfl, by rw [wo_unit, if_neg c_1, if_neg c_5, if_neg c_9, if_neg c_13, if_neg c_17, if_neg c_21, if_pos c_25, if_neg c_26, if_neg c_27], by rw [ht]; exact hP, va_K.moved hW.alike hK, hD⟩, hS.F ht⟩) hS.2.2 d_Wo_mayBeUnit_99
                    · exact absurd c_28 (by decide)
              · refine lv_iload_n hx hb d_Wo_mayBeUnit_42 rfl (lv_at hl 0 rfl) ?_
                refine lv_bipush (v := 92) hx hb d_Wo_mayBeUnit_43 (by decide) ?_
                refine lv_icmp_eq (tgt := 60) hx hb d_Wo_mayBeUnit_45 (by decide) (fun c_29 => ?_) (fun c_29 => ?_)
                · refine lv_iconst (v := 1) hx hb d_Wo_mayBeUnit_60 (by decide) ?_
                  refine lv_goto (tgt := 65) hx hb d_Wo_mayBeUnit_61 (by decide) ?_
                  refine lv_istore_n (lv' := [(1, .int 1), (0, .int p0)]) hx hb d_Wo_mayBeUnit_65 rfl hl (by decide) rfl (fun ls hl => ?_)
                  refine lv_iload_n hx hb d_Wo_mayBeUnit_66 rfl (lv_at hl 1 rfl) ?_
                  refine lv_bipush (v := 32) hx hb d_Wo_mayBeUnit_67 (by decide) ?_
                  refine lv_icmp_lt (tgt := 98) hx hb d_Wo_mayBeUnit_69 (by decide) (fun c_30 => ?_) (fun c_30 => ?_)
                  · refine lv_iconst (v := 0) hx hb d_Wo_mayBeUnit_98 (by decide) ?_
                    exact W.zret (v := 0) hx hb hr rfl (fun t ht hW => ⟨⟨0, (), rfl, by rw [wo_unit, if_neg c_1, if_neg c_5, if_neg c_9, if_neg c_13, if_neg c_17, if_neg c_21, if_neg c_25, if_pos c_29, if_pos c_30], by rw [ht]; exact hP, va_K.moved hW.alike hK, hD⟩, hS.F ht⟩) hS.2.2 d_Wo_mayBeUnit_99
                  · refine lv_iload_n hx hb d_Wo_mayBeUnit_72 rfl (lv_at hl 1 rfl) ?_
                    refine lv_ldc (v := 65533) hx hb hown (hts _ (k_Wo_14)) d_Wo_mayBeUnit_73 ?_
                    refine lv_icmp_gt (tgt := 98) hx hb d_Wo_mayBeUnit_75 (by decide) (fun c_31 => ?_) (fun c_31 => ?_)
                    · refine lv_iconst (v := 0) hx hb d_Wo_mayBeUnit_98 (by decide) ?_
                      exact W.zret (v := 0) hx hb hr rfl (fun t ht hW => ⟨⟨0, (), rfl, by rw [wo_unit, if_neg c_1, if_neg c_5, if_neg c_9, if_neg c_13, if_neg c_17, if_neg c_21, if_neg c_25, if_pos c_29, if_neg c_30, if_pos c_31], by rw [ht]; exact hP, va_K.moved hW.alike hK, hD⟩, hS.F ht⟩) hS.2.2 d_Wo_mayBeUnit_99
                    · refine lv_iload_n hx hb d_Wo_mayBeUnit_78 rfl (lv_at hl 0 rfl) ?_
                      refine lv_if_ne (tgt := 98) hx hb d_Wo_mayBeUnit_79 (by decide) (fun c_32 => ?_) (fun c_32 => ?_)
                      · refine lv_iconst (v := 0) hx hb d_Wo_mayBeUnit_98 (by decide) ?_
                        exact W.zret (v := 0) hx hb hr rfl (fun t ht hW => ⟨⟨0, (), rfl, by rw [wo_unit, if_neg c_1, if_neg c_5, if_neg c_9, if_neg c_13, if_neg c_17, if_neg c_21, if_neg c_25, if_pos c_29, if_neg c_30, if_neg c_31], by rw [ht]; exact hP, va_K.moved hW.alike hK, hD⟩, hS.F ht⟩) hS.2.2 d_Wo_mayBeUnit_99
                      · exact absurd c_32 (by decide)
                · refine lv_iload_n hx hb d_Wo_mayBeUnit_48 rfl (lv_at hl 0 rfl) ?_
                  refine lv_bipush (v := 124) hx hb d_Wo_mayBeUnit_49 (by decide) ?_
                  refine lv_icmp_eq (tgt := 60) hx hb d_Wo_mayBeUnit_51 (by decide) (fun c_33 => ?_) (fun c_33 => ?_)
                  · refine lv_iconst (v := 1) hx hb d_Wo_mayBeUnit_60 (by decide) ?_
                    refine lv_goto (tgt := 65) hx hb d_Wo_mayBeUnit_61 (by decide) ?_
                    refine lv_istore_n (lv' := [(1, .int 1), (0, .int p0)]) hx hb d_Wo_mayBeUnit_65 rfl hl (by decide) rfl (fun ls hl => ?_)
                    refine lv_iload_n hx hb d_Wo_mayBeUnit_66 rfl (lv_at hl 1 rfl) ?_
                    refine lv_bipush (v := 32) hx hb d_Wo_mayBeUnit_67 (by decide) ?_
                    refine lv_icmp_lt (tgt := 98) hx hb d_Wo_mayBeUnit_69 (by decide) (fun c_34 => ?_) (fun c_34 => ?_)
                    · refine lv_iconst (v := 0) hx hb d_Wo_mayBeUnit_98 (by decide) ?_
                      exact W.zret (v := 0) hx hb hr rfl (fun t ht hW => ⟨⟨0, (), rfl, by rw [wo_unit, if_neg c_1, if_neg c_5, if_neg c_9, if_neg c_13, if_neg c_17, if_neg c_21, if_neg c_25, if_neg c_29, if_pos c_33, if_pos c_34], by rw [ht]; exact hP, va_K.moved hW.alike hK, hD⟩, hS.F ht⟩) hS.2.2 d_Wo_mayBeUnit_99
                    · refine lv_iload_n hx hb d_Wo_mayBeUnit_72 rfl (lv_at hl 1 rfl) ?_
                      refine lv_ldc (v := 65533) hx hb hown (hts _ (k_Wo_14)) d_Wo_mayBeUnit_73 ?_
                      refine lv_icmp_gt (tgt := 98) hx hb d_Wo_mayBeUnit_75 (by decide) (fun c_35 => ?_) (fun c_35 => ?_)
                      · refine lv_iconst (v := 0) hx hb d_Wo_mayBeUnit_98 (by decide) ?_
                        exact W.zret (v := 0) hx hb hr rfl (fun t ht hW => ⟨⟨0, (), rfl, by rw [wo_unit, if_neg c_1, if_neg c_5, if_neg c_9, if_neg c_13, if_neg c_17, if_neg c_21, if_neg c_25, if_neg c_29, if_pos c_33, if_neg c_34, if_pos c_35], by rw [ht]; exact hP, va_K.moved hW.alike hK, hD⟩, hS.F ht⟩) hS.2.2 d_Wo_mayBeUnit_99
                      · refine lv_iload_n hx hb d_Wo_mayBeUnit_78 rfl (lv_at hl 0 rfl) ?_
                        refine lv_if_ne (tgt := 98) hx hb d_Wo_mayBeUnit_79 (by decide) (fun c_36 => ?_) (fun c_36 => ?_)
                        · refine lv_iconst (v := 0) hx hb d_Wo_mayBeUnit_98 (by decide) ?_
                          exact W.zret (v := 0) hx hb hr rfl (fun t ht hW => ⟨⟨0, (), rfl, by rw [wo_unit, if_neg c_1, if_neg c_5, if_neg c_9, if_neg c_13, if_neg c_17, if_neg c_21, if_neg c_25, if_neg c_29, if_pos c_33, if_neg c_34, if_neg c_35], by rw [ht]; exact hP, va_K.moved hW.alike hK, hD⟩, hS.F ht⟩) hS.2.2 d_Wo_mayBeUnit_99
                        · exact absurd c_36 (by decide)
                  · refine lv_iload_n hx hb d_Wo_mayBeUnit_54 rfl (lv_at hl 0 rfl) ?_
                    refine lv_bipush (v := 127) hx hb d_Wo_mayBeUnit_55 (by decide) ?_
                    refine lv_icmp_ne (tgt := 64) hx hb d_Wo_mayBeUnit_57 (by decide) (fun c_37 => ?_) (fun c_37 => ?_)
                    · refine lv_iconst (v := 0) hx hb d_Wo_mayBeUnit_64 (by decide) ?_
                      refine lv_istore_n (lv' := [(1, .int 0), (0, .int p0)]) hx hb d_Wo_mayBeUnit_65 rfl hl (by decide) rfl (fun ls hl => ?_)
                      refine lv_iload_n hx hb d_Wo_mayBeUnit_66 rfl (lv_at hl 1 rfl) ?_
                      refine lv_bipush (v := 32) hx hb d_Wo_mayBeUnit_67 (by decide) ?_
                      refine lv_icmp_lt (tgt := 98) hx hb d_Wo_mayBeUnit_69 (by decide) (fun c_38 => ?_) (fun c_38 => ?_)
                      · refine lv_iconst (v := 0) hx hb d_Wo_mayBeUnit_98 (by decide) ?_
                        exact W.zret (v := 0) hx hb hr rfl (fun t ht hW => ⟨⟨0, (), rfl, by rw [wo_unit, if_neg c_1, if_neg c_5, if_neg c_9, if_neg c_13, if_neg c_17, if_neg c_21, if_neg c_25, if_neg c_29, if_neg c_33, if_neg c_37, if_pos c_38], by rw [ht]; exact hP, va_K.moved hW.alike hK, hD⟩, hS.F ht⟩) hS.2.2 d_Wo_mayBeUnit_99
                      · refine lv_iload_n hx hb d_Wo_mayBeUnit_72 rfl (lv_at hl 1 rfl) ?_
                        refine lv_ldc (v := 65533) hx hb hown (hts _ (k_Wo_14)) d_Wo_mayBeUnit_73 ?_
                        refine lv_icmp_gt (tgt := 98) hx hb d_Wo_mayBeUnit_75 (by decide) (fun c_39 => ?_) (fun c_39 => ?_)
                        · refine lv_iconst (v := 0) hx hb d_Wo_mayBeUnit_98 (by decide) ?_
                          exact W.zret (v := 0) hx hb hr rfl (fun t ht hW => ⟨⟨0, (), rfl, by rw [wo_unit, if_neg c_1, if_neg c_5, if_neg c_9, if_neg c_13, if_neg c_17, if_neg c_21, if_neg c_25, if_neg c_29, if_neg c_33, if_neg c_37, if_neg c_38, if_pos c_39], by rw [ht]; exact hP, va_K.moved hW.alike hK, hD⟩, hS.F ht⟩) hS.2.2 d_Wo_mayBeUnit_99
                        · refine lv_iload_n hx hb d_Wo_mayBeUnit_78 rfl (lv_at hl 0 rfl) ?_
                          refine lv_if_ne (tgt := 98) hx hb d_Wo_mayBeUnit_79 (by decide) (fun c_40 => ?_) (fun c_40 => ?_)
                          · exact absurd c_40 (by decide)
                          · refine lv_iload_n hx hb d_Wo_mayBeUnit_82 rfl (lv_at hl 1 rfl) ?_
                            refine lv_ldc (v := 55296) hx hb hown (hts _ (k_Wo_15)) d_Wo_mayBeUnit_83 ?_
                            refine lv_icmp_lt (tgt := 94) hx hb d_Wo_mayBeUnit_85 (by decide) (fun c_41 => ?_) (fun c_41 => ?_)
                            · refine lv_iconst (v := 1) hx hb d_Wo_mayBeUnit_94 (by decide) ?_
                              refine lv_goto (tgt := 99) hx hb d_Wo_mayBeUnit_95 (by decide) ?_
                              exact W.zret (v := 1) hx hb hr rfl (fun t ht hW => ⟨⟨1, (), rfl, by rw [wo_unit, if_neg c_1, if_neg c_5, if_neg c_9, if_neg c_13, if_neg c_17, if_neg c_21, if_neg c_25, if_neg c_29, if_neg c_33, if_neg c_37, if_neg c_38, if_neg c_39, if_pos c_41], by rw [ht]; exact hP, va_K.moved hW.alike hK, hD⟩, hS.F ht⟩) hS.2.2 d_Wo_mayBeUnit_99
                            · refine lv_iload_n hx hb d_Wo_mayBeUnit_88 rfl (lv_at hl 1 rfl) ?_
                              refine lv_ldc (v := 57343) hx hb hown (hts _ (k_Wo_16)) d_Wo_mayBeUnit_89 ?_
                              refine lv_icmp_le (tgt := 98) hx hb d_Wo_mayBeUnit_91 (by decide) (fun c_42 => ?_) (fun c_42 => ?_)
                              · refine lv_iconst (v := 0) hx hb d_Wo_mayBeUnit_98 (by decide) ?_
                                exact W.zret (v := 0) hx hb hr rfl (fun t ht hW => ⟨⟨0, (), rfl, by rw [wo_unit, if_neg c_1, if_neg c_5, if_neg c_9, if_neg c_13, if_neg c_17, if_neg c_21, if_neg c_25, if_neg c_29, if_neg c_33, if_neg c_37, if_neg c_38, if_neg c_39, if_neg c_41, if_pos c_42], by rw [ht]; exact hP, va_K.moved hW.alike hK, hD⟩, hS.F ht⟩) hS.2.2 d_Wo_mayBeUnit_99
                              · refine lv_iconst (v := 1) hx hb d_Wo_mayBeUnit_94 (by decide) ?_
                                refine lv_goto (tgt := 99) hx hb d_Wo_mayBeUnit_95 (by decide) ?_
                                exact W.zret (v := 1) hx hb hr rfl (fun t ht hW => ⟨⟨1, (), rfl, by rw [wo_unit, if_neg c_1, if_neg c_5, if_neg c_9, if_neg c_13, if_neg c_17, if_neg c_21, if_neg c_25, if_neg c_29, if_neg c_33, if_neg c_37, if_neg c_38, if_neg c_39, if_neg c_41, if_neg c_42], by rw [ht]; exact hP, va_K.moved hW.alike hK, hD⟩, hS.F ht⟩) hS.2.2 d_Wo_mayBeUnit_99
                    · refine lv_iconst (v := 1) hx hb d_Wo_mayBeUnit_60 (by decide) ?_
                      refine lv_goto (tgt := 65) hx hb d_Wo_mayBeUnit_61 (by decide) ?_
                      refine lv_istore_n (lv' := [(1, .int 1), (0, .int p0)]) hx hb d_Wo_mayBeUnit_65 rfl hl (by decide) rfl (fun ls hl => ?_)
                      refine lv_iload_n hx hb d_Wo_mayBeUnit_66 rfl (lv_at hl 1 rfl) ?_
                      refine lv_bipush (v := 32) hx hb d_Wo_mayBeUnit_67 (by decide) ?_
                      refine lv_icmp_lt (tgt := 98) hx hb d_Wo_mayBeUnit_69 (by decide) (fun c_43 => ?_) (fun c_43 => ?_)
                      · refine lv_iconst (v := 0) hx hb d_Wo_mayBeUnit_98 (by decide) ?_
                        exact W.zret (v := 0) hx hb hr rfl (fun t ht hW => ⟨⟨0, (), rfl, by rw [wo_unit, if_neg c_1, if_neg c_5, if_neg c_9, if_neg c_13, if_neg c_17, if_neg c_21, if_neg c_25, if_neg c_29, if_neg c_33, if_pos c_37, if_pos c_43], by rw [ht]; exact hP, va_K.moved hW.alike hK, hD⟩, hS.F ht⟩) hS.2.2 d_Wo_mayBeUnit_99
                      · refine lv_iload_n hx hb d_Wo_mayBeUnit_72 rfl (lv_at hl 1 rfl) ?_
                        refine lv_ldc (v := 65533) hx hb hown (hts _ (k_Wo_14)) d_Wo_mayBeUnit_73 ?_
                        refine lv_icmp_gt (tgt := 98) hx hb d_Wo_mayBeUnit_75 (by decide) (fun c_44 => ?_) (fun c_44 => ?_)
                        · refine lv_iconst (v := 0) hx hb d_Wo_mayBeUnit_98 (by decide) ?_
                          exact W.zret (v := 0) hx hb hr rfl (fun t ht hW => ⟨⟨0, (), rfl, by rw [wo_unit, if_neg c_1, if_neg c_5, if_neg c_9, if_neg c_13, if_neg c_17, if_neg c_21, if_neg c_25, if_neg c_29, if_neg c_33, if_pos c_37, if_neg c_43, if_pos c_44], by rw [ht]; exact hP, va_K.moved hW.alike hK, hD⟩, hS.F ht⟩) hS.2.2 d_Wo_mayBeUnit_99
                        · refine lv_iload_n hx hb d_Wo_mayBeUnit_78 rfl (lv_at hl 0 rfl) ?_
                          refine lv_if_ne (tgt := 98) hx hb d_Wo_mayBeUnit_79 (by decide) (fun c_45 => ?_) (fun c_45 => ?_)
                          · refine lv_iconst (v := 0) hx hb d_Wo_mayBeUnit_98 (by decide) ?_
                            exact W.zret (v := 0) hx hb hr rfl (fun t ht hW => ⟨⟨0, (), rfl, by rw [wo_unit, if_neg c_1, if_neg c_5, if_neg c_9, if_neg c_13, if_neg c_17, if_neg c_21, if_neg c_25, if_neg c_29, if_neg c_33, if_pos c_37, if_neg c_43, if_neg c_44], by rw [ht]; exact hP, va_K.moved hW.alike hK, hD⟩, hS.F ht⟩) hS.2.2 d_Wo_mayBeUnit_99
                          · exact absurd c_45 (by decide)
def wo_nmE (ua : Nat → Int32) (pn : Nat) : Int32 := if ua (nI pn - 1).toNatClampNeg = 32 then 0 else if ua (nI pn - 1).toNatClampNeg = 46 then 0 else 1
def wo_nmF (ua : Nat → Int32) (pn : Nat) : Nat → Nat → Int32
  | 0, _ => wo_nmE ua pn
  | k + 1, i => if wo_unit (ua (nI i).toNatClampNeg) = 0 then 0 else wo_nmF ua pn k (i + 1)
def wo_name (ul : Nat) (ua : Nat → Int32) (p1 : Int32) : Int32 := if p1 < 1 then 0 else if 255 < p1 then 0 else if p1 ≤ nI ul then wo_nmF ua p1.toNatClampNeg p1.toNatClampNeg 0 else 0
set_option maxHeartbeats 4000000 in
set_option maxRecDepth 100000 in
/-- a name by its units -/
theorem c_Wo_isName (l : Launch) (dC : Nat → ClassId) (dI : Nat → Nat → Nat) (u0 sz : Nat) (c3 : ClassId) (ul : Nat) (ua : Nat → Int32) (hul : ul < 2 ^ 31) (p1 : Int32) : Met l y_Wo_isName (.code y_Wo_isName b_Wo_isName 3 (some .boolean) :: V_Wo) ({ frames := 1, cells := 0, slots := 0, locals := 21 }) (va_Pc [.ref u0, .int p1] (fun U => U.heap.size = sz ∧ at_ (dC, dI) (fun _ => True) [(u0, .inl (c3, ul, .inl ua))] [(c3, .int)] U)) (va_Qi (fun (r : Int32) (u : Unit) => r = wo_name ul ua p1) (fun (u : Unit) t => at_ (dC, dI) (va_A [(u0, .inl (c3, ul, .inl ua))] sz) [(u0, .inl (c3, ul, .inl ua))] [(c3, .int)] t) (va_A [(u0, .inl (c3, ul, .inl ua))] sz)) 0 0 (va_A [(u0, .inl (c3, ul, .inl ua))] sz) := by
  refine Met.ofW (cc := b_Wo_isName) (maxL := 3) (ret := (some .boolean)) (by decide) rfl ?_
  intro p e s m args below meth c s₁ B hml hv
  obtain ⟨rfl, hsz, hP, hK, hD0⟩ := hv
  have hx := B.exec
  have hb := B.bytes
  have hr := B.returns
  have hts0 := atoms_spec (ws := .code y_Wo_isName b_Wo_isName 3 (some .boolean) :: V_Wo) B.pre
  have hts : ∀ w ∈ V_Wo, w.before ([.ref u0, .int p1] : List Value).toArray s = true := fun w h => hts0 w (List.mem_cons_of_mem _ h)
  have hown : s.vm.findClass R_Wo = some m.cls := findClass_of_methodNamed B.named
  have hlocks := B.notSynchronized
  subst hsz
  have hD := hD0.self (sz := s.heap.size)
  generalize hAe : va_A [(u0, .inl (c3, ul, .inl ua))] s.heap.size = A at hD ⊢
  have hA : ∀ q : Nat, s.heap.size ≤ q → A q := fun q h => by rw [← hAe]; exact Or.inr h
  have hS : va_S A s.heap s.heap [] := va_S.rf
  have hP : va_P (dC, dI) classes [(u0, .inl (c3, ul, .inl ua))] s.heap := hP
  have hK : va_K (dC, dI) classes [(c3, .int)] s := hK
  have hl := lv_entry ([.ref u0, .int p1]) (n := 3) (Nat.le_of_ble_eq_true rfl)
  rw [lg_entry_eq]
  generalize (lg_sl ([.ref u0, .int p1]) ++ List.replicate (3 - (lg_sl ([.ref u0, .int p1])).length) Slot.unset).toArray = ls at hl ⊢
  have hl : lv_has ls 3 [(0, .ref u0), (1, .int p1)] := hl
  refine qabs (fun Q hQ => ?_)
  have hL22 : ∀ (k_ : Nat) (i : Nat) (pn : Nat) (H : Heap) (locs : List Loc) (ls : Array Slot), pn - i < k_ → (i ≤ pn) → (1 ≤ pn) → (pn ≤ ul) → (wo_nmF ua pn (pn - i) i = wo_name ul ua p1) → va_P (dC, dI) classes [(u0, .inl (c3, ul, .inl ua))] H → va_D A [(u0, .inl (c3, ul, .inl ua))] → va_S A s.heap H locs → lv_has ls 3 [(0, .ref u0), (1, .int (nI pn)), (2, .int (nI i))] → W p l e ({ frames := 1, cells := 0, slots := 0, locals := 21 }) s m ([.ref u0, .int p1] : List Value).toArray below meth c H locs 0 0 Q (F0 m 22 ls []) := by
    intro k_
    induction k_ with
    | zero => intro i pn H locs ls hk_; exact absurd hk_ (Nat.not_lt_zero _)
    | succ k_ ih =>
      intro i pn H locs ls hk_ hi hp1 hpu he hP hD hS hl
      refine lv_iload_n hx hb d_Wo_isName_22 rfl (lv_at hl 2 rfl) ?_
      refine lv_iload_n hx hb d_Wo_isName_23 rfl (lv_at hl 1 rfl) ?_
      refine lv_icmp_ge (tgt := 44) hx hb d_Wo_isName_24 (by decide) (fun c_1 => ?_) (fun c_1 => ?_)
      · have hi9 : pn ≤ i := (nI_leI (by omega) (by omega)).mp c_1
        refine lv_aload_n hx hb d_Wo_isName_44 rfl (lv_at hl 0 rfl) ?_
        refine lv_iload_n hx hb d_Wo_isName_45 rfl (lv_at hl 1 rfl) ?_
        refine lv_iconst (v := 1) hx hb d_Wo_isName_46 (by decide) ?_
        refine lv_isub hx hb d_Wo_isName_47 ?_
        refine va_iald hx hb hK hP 0 0 rfl rfl (by rw [show nI pn - 1 = nI (pn - 1) from pk_sub hp1]; exact vp_in_nI (by omega) hul) d_Wo_isName_48 ?_
        refine lv_bipush (v := 32) hx hb d_Wo_isName_49 (by decide) ?_
        refine lv_icmp_eq (tgt := 68) hx hb d_Wo_isName_51 (by decide) (fun c_2 => ?_) (fun c_2 => ?_)
        · refine lv_iconst (v := 0) hx hb d_Wo_isName_68 (by decide) ?_
          rw [hQ]
          exact W.zret (v := 0) hx hb hr rfl (fun t ht hW => ⟨⟨0, (), rfl, by rw [← he, show pn - i = 0 by omega, wo_nmF, wo_nmE, if_pos c_2], by rw [ht]; exact hP, va_K.moved hW.alike hK, hD⟩, hS.F ht⟩) hS.2.2 d_Wo_isName_69
        · refine lv_aload_n hx hb d_Wo_isName_54 rfl (lv_at hl 0 rfl) ?_
          refine lv_iload_n hx hb d_Wo_isName_55 rfl (lv_at hl 1 rfl) ?_
          refine lv_iconst (v := 1) hx hb d_Wo_isName_56 (by decide) ?_
          refine lv_isub hx hb d_Wo_isName_57 ?_
          refine va_iald hx hb hK hP 0 0 rfl rfl (by rw [show nI pn - 1 = nI (pn - 1) from pk_sub hp1]; exact vp_in_nI (by omega) hul) d_Wo_isName_58 ?_
          refine lv_bipush (v := 46) hx hb d_Wo_isName_59 (by decide) ?_
          refine lv_icmp_eq (tgt := 68) hx hb d_Wo_isName_61 (by decide) (fun c_3 => ?_) (fun c_3 => ?_)
          · refine lv_iconst (v := 0) hx hb d_Wo_isName_68 (by decide) ?_
            rw [hQ]
            exact W.zret (v := 0) hx hb hr rfl (fun t ht hW => ⟨⟨0, (), rfl, by rw [← he, show pn - i = 0 by omega, wo_nmF, wo_nmE, if_neg c_2, if_pos c_3], by rw [ht]; exact hP, va_K.moved hW.alike hK, hD⟩, hS.F ht⟩) hS.2.2 d_Wo_isName_69
          · refine lv_iconst (v := 1) hx hb d_Wo_isName_64 (by decide) ?_
            refine lv_goto (tgt := 69) hx hb d_Wo_isName_65 (by decide) ?_
            rw [hQ]
            exact W.zret (v := 1) hx hb hr rfl (fun t ht hW => ⟨⟨1, (), rfl, by rw [← he, show pn - i = 0 by omega, wo_nmF, wo_nmE, if_neg c_2, if_neg c_3], by rw [ht]; exact hP, va_K.moved hW.alike hK, hD⟩, hS.F ht⟩) hS.2.2 d_Wo_isName_69
      · have hlt : i < pn := Nat.lt_of_not_le (fun h => c_1 ((nI_leI (by omega) (by omega)).mpr h))
        refine lv_aload_n hx hb d_Wo_isName_27 rfl (lv_at hl 0 rfl) ?_
        refine lv_iload_n hx hb d_Wo_isName_28 rfl (lv_at hl 2 rfl) ?_
        refine va_iald hx hb hK hP 0 0 rfl rfl (vp_in_nI (Nat.lt_of_lt_of_le hlt hpu) hul) d_Wo_isName_29 ?_
        have hPc := hP.sub (ws' := []) [] rfl
        have hDc := hD.sub (ws' := []) [] (by decide) rfl
        have hKc := hK.sub (tys' := []) [] rfl
        have hFc := va_free (wc := []) hD hS hA [] rfl
        refine va_calli (va_runS (As := [.int (ua (nI i).toNatClampNeg)]) (rest := []) ⟨hx, hb, hml, hown, hts⟩ (c_Wo_mayBeUnit l dC dI H.size (ua (nI i).toNatClampNeg)) (va_cwS 1 hts (gwS good_Wo (k_Wo_11) (k_Wo_12) (k_Wo_0) (wcs (k_Wo_13) (fun _ h => h))) rfl rfl rfl (by decide +kernel) ⟨Nat.le_of_ble_eq_true rfl, Nat.le_of_ble_eq_true rfl⟩) (ps_of hPc hKc hDc) rfl rfl hl.1 rfl (lv_room (Nat.le_of_ble_eq_true rfl)) d_Wo_isName_30 ⟨by decide, by decide⟩) hS (fun q _ h => hFc q h) hFc (fun r_4 u t H1 locs ht hvm hw hB hz1 hk1 hS => ?_)
        have er_4 := hw
        obtain ⟨hP1, hK1, hD1⟩ := hB
        rw [ht] at hP1
        have hP1 : va_P (dC, dI) classes [] H1 := hP1
        have hD1 : va_D _ [] := hD1
        obtain ⟨hP, hD⟩ := va_join (wr := [(u0, .inl (c3, ul, .inl ua))]) (w1 := []) hP hD [] [0] rfl rfl (by decide) (by decide) hk1 hFc hP1 hD1
        generalize H1 = H at hP hS ⊢
        have hP : va_P (dC, dI) classes [(u0, .inl (c3, ul, .inl ua))] H := hP
        have hD : va_D A [(u0, .inl (c3, ul, .inl ua))] := hD
        refine lv_if_ne (tgt := 38) hx hb d_Wo_isName_33 (by decide) (fun c_5 => ?_) (fun c_5 => ?_)
        · refine lv_iinc (v := nI (i + 1)) (lv' := [(2, .int (nI (i + 1))), (0, .ref u0), (1, .int (nI pn))]) hx hb d_Wo_isName_38 hl (k := 2) rfl (by exact nI_1 i) (by decide) rfl (fun ls hl => ?_)
          refine lv_goto (tgt := 22) hx hb d_Wo_isName_41 (by decide) ?_
          obtain ⟨k9, hk9⟩ : ∃ k, pn - i = k + 1 := ⟨pn - i - 1, by omega⟩
          have he9 : wo_nmF ua pn (pn - (i + 1)) (i + 1) = wo_name ul ua p1 := by rw [← he, hk9, show pn - (i + 1) = k9 by omega, wo_nmF, ← er_4, if_neg c_5]
          exact ih (i + 1) pn _ _ _ (by omega) hlt hp1 hpu he9 hP hD hS (lv_sub hl [1, 2, 0] rfl)
        · refine lv_iconst (v := 0) hx hb d_Wo_isName_36 (by decide) ?_
          rw [hQ]
          exact W.zret (v := 0) hx hb hr rfl (fun t ht hW => ⟨⟨0, (), rfl, by obtain ⟨k9, hk9⟩ : ∃ k, pn - i = k + 1 := ⟨pn - i - 1, by omega⟩; rw [← he, hk9, wo_nmF, ← er_4, if_pos c_5], by rw [ht]; exact hP, va_K.moved hW.alike hK, hD⟩, hS.F ht⟩) hS.2.2 d_Wo_isName_37
  refine lv_iload_n hx hb d_Wo_isName_0 rfl (lv_at hl 1 rfl) ?_
  refine lv_iconst (v := 1) hx hb d_Wo_isName_1 (by decide) ?_
  refine lv_icmp_lt (tgt := 18) hx hb d_Wo_isName_2 (by decide) (fun c_6 => ?_) (fun c_6 => ?_)
  · refine lv_iconst (v := 0) hx hb d_Wo_isName_18 (by decide) ?_
    rw [hQ]
    exact W.zret (v := 0) hx hb hr rfl (fun t ht hW => ⟨⟨0, (), rfl, by rw [wo_name, if_pos c_6], by rw [ht]; exact hP, va_K.moved hW.alike hK, hD⟩, hS.F ht⟩) hS.2.2 d_Wo_isName_19
  · refine lv_iload_n hx hb d_Wo_isName_5 rfl (lv_at hl 1 rfl) ?_
    refine lv_sipush (v := 255) hx hb d_Wo_isName_6 (by decide) ?_
    refine lv_icmp_gt (tgt := 18) hx hb d_Wo_isName_9 (by decide) (fun c_7 => ?_) (fun c_7 => ?_)
    · refine lv_iconst (v := 0) hx hb d_Wo_isName_18 (by decide) ?_
      rw [hQ]
      exact W.zret (v := 0) hx hb hr rfl (fun t ht hW => ⟨⟨0, (), rfl, by rw [wo_name, if_neg c_6, if_pos c_7], by rw [ht]; exact hP, va_K.moved hW.alike hK, hD⟩, hS.F ht⟩) hS.2.2 d_Wo_isName_19
    · refine lv_iload_n hx hb d_Wo_isName_12 rfl (lv_at hl 1 rfl) ?_
      refine lv_aload_n hx hb d_Wo_isName_13 rfl (lv_at hl 0 rfl) ?_
      refine va_alen (v := nI ul) hx hb hK hP 0 0 rfl rfl rfl d_Wo_isName_14 ?_
      refine lv_icmp_le (tgt := 20) hx hb d_Wo_isName_15 (by decide) (fun c_8 => ?_) (fun c_8 => ?_)
      · refine lv_iconst (v := 0) hx hb d_Wo_isName_20 (by decide) ?_
        refine lv_istore_n (lv' := [(2, .int 0), (0, .ref u0), (1, .int p1)]) hx hb d_Wo_isName_21 rfl hl (by decide) rfl (fun ls hl => ?_)
        obtain ⟨pn, hpn, rfl⟩ := nI_of (x := p1) (fun h => c_6 (Int32.lt_trans h (by decide)))
        have g1 : 1 ≤ pn := nle_of_lt (b := 1) hpn c_6 (by decide)
        have g2 : pn ≤ ul := (nI_leI hpn hul).mp c_8
        exact hL22 (pn + 1) 0 pn _ _ _ (by omega) (Nat.zero_le _) g1 g2 (by rw [wo_name, if_neg c_6, if_neg c_7, if_pos c_8, nI_clamp hpn]; rfl) hP hD hS (lv_sub hl [1, 2, 0] rfl)
      · refine lv_iconst (v := 0) hx hb d_Wo_isName_18 (by decide) ?_
        rw [hQ]
        exact W.zret (v := 0) hx hb hr rfl (fun t ht hW => ⟨⟨0, (), rfl, by rw [wo_name, if_neg c_6, if_neg c_7, if_neg c_8], by rw [ht]; exact hP, va_K.moved hW.alike hK, hD⟩, hS.F ht⟩) hS.2.2 d_Wo_isName_19
/-- a short name from its sign i on; e: blanks have begun -/
def wo_snF (n : Nat) (f : Nat → Int32) (a lab : Int32) : Nat → Nat → Int32 → Int32
  | 0, _, _ => 1
  | k + 1, i, e => if e = 0 then (if dk_one n f (a + nI i) = 32 then (if lab = 0 then wo_snF n f a lab k (i + 1) 1 else wo_snF n f a lab k (i + 1) 0) else if wo_short (dk_one n f (a + nI i)) = 0 then 0 else wo_snF n f a lab k (i + 1) 0) else if nI i = 8 then (if dk_one n f (a + nI i) = 32 then (if lab = 0 then wo_snF n f a lab k (i + 1) 1 else wo_snF n f a lab k (i + 1) 0) else if wo_short (dk_one n f (a + nI i)) = 0 then 0 else wo_snF n f a lab k (i + 1) 0) else (if dk_one n f (a + nI i) = 32 then (if lab = 0 then wo_snF n f a lab k (i + 1) 1 else wo_snF n f a lab k (i + 1) 0) else 0)
def wo_sn (n : Nat) (f : Nat → Int32) (a lab : Int32) : Int32 := if dk_one n f a = 32 then 0 else wo_snF n f a lab 11 0 0
set_option maxHeartbeats 4000000 in
set_option maxRecDepth 100000 in
/-- a short name on the disk -/
theorem c_Wo_isShortName (l : Launch) (dC : Nat → ClassId) (dI : Nat → Nat → Nat) (h0 h1 sz : Nat) (cB : ClassId) (sec pw : Int32) (n : Nat) (f : Nat → Int32) (h4 : 4 ≤ n) (hn : n < 2 ^ 31) (p1 p2 : Int32) : Met l y_Wo_isShortName (.code y_Wo_isShortName b_Wo_isShortName 6 (some .boolean) :: V_Wo) ({ frames := 1, cells := 0, slots := 0, locals := 21 }) (va_Pc [.ref h0, .int p1, .int p2] (fun U => U.heap.size = sz ∧ at_ (dC, dI) (fun _ => True) [(h0, .inr (0, [.int sec, .ref h1, .int pw])), (h1, .inl (cB, n, .inl f))] [(cB, .byte)] U)) (va_Qi (fun (r : Int32) (u : Unit) => r = wo_sn n f p1 p2) (fun (u : Unit) t => at_ (dC, dI) (va_A [(h0, .inr (0, [.int sec, .ref h1, .int pw])), (h1, .inl (cB, n, .inl f))] sz) [(h0, .inr (0, [.int sec, .ref h1, .int pw])), (h1, .inl (cB, n, .inl f))] [(cB, .byte)] t) (va_A [(h0, .inr (0, [.int sec, .ref h1, .int pw])), (h1, .inl (cB, n, .inl f))] sz)) 0 0 (va_A [(h0, .inr (0, [.int sec, .ref h1, .int pw])), (h1, .inl (cB, n, .inl f))] sz) := by
  refine Met.ofW (cc := b_Wo_isShortName) (maxL := 6) (ret := (some .boolean)) (by decide) rfl ?_
  intro p e s m args below meth c s₁ B hml hv
  obtain ⟨rfl, hsz, hP, hK, hD0⟩ := hv
  have hx := B.exec
  have hb := B.bytes
  have hr := B.returns
  have hts0 := atoms_spec (ws := .code y_Wo_isShortName b_Wo_isShortName 6 (some .boolean) :: V_Wo) B.pre
  have hts : ∀ w ∈ V_Wo, w.before ([.ref h0, .int p1, .int p2] : List Value).toArray s = true := fun w h => hts0 w (List.mem_cons_of_mem _ h)
  have hown : s.vm.findClass R_Wo = some m.cls := findClass_of_methodNamed B.named
  have hlocks := B.notSynchronized
  subst hsz
  have hD := hD0.self (sz := s.heap.size)
  generalize hAe : va_A [(h0, .inr (0, [.int sec, .ref h1, .int pw])), (h1, .inl (cB, n, .inl f))] s.heap.size = A at hD ⊢
  have hA : ∀ q : Nat, s.heap.size ≤ q → A q := fun q h => by rw [← hAe]; exact Or.inr h
  have hS : va_S A s.heap s.heap [] := va_S.rf
  have hP : va_P (dC, dI) classes [(h0, .inr (0, [.int sec, .ref h1, .int pw])), (h1, .inl (cB, n, .inl f))] s.heap := hP
  have hK : va_K (dC, dI) classes [(cB, .byte)] s := hK
  have hl := lv_entry ([.ref h0, .int p1, .int p2]) (n := 6) (Nat.le_of_ble_eq_true rfl)
  rw [lg_entry_eq]
  generalize (lg_sl ([.ref h0, .int p1, .int p2]) ++ List.replicate (6 - (lg_sl ([.ref h0, .int p1, .int p2])).length) Slot.unset).toArray = ls at hl ⊢
  have hl : lv_has ls 6 [(0, .ref h0), (1, .int p1), (2, .int p2)] := hl
  refine qabs (fun Q hQ => ?_)
  have hL17 : ∀ (k_ : Nat) (i : Nat) (ev : Int32) (H : Heap) (locs : List Loc) (ls : Array Slot), 11 - i < k_ → (i ≤ 11) → (wo_snF n f p1 p2 (11 - i) i ev = wo_sn n f p1 p2) → va_P (dC, dI) classes [(h0, .inr (0, [.int sec, .ref h1, .int pw])), (h1, .inl (cB, n, .inl f))] H → va_D A [(h0, .inr (0, [.int sec, .ref h1, .int pw])), (h1, .inl (cB, n, .inl f))] → va_S A s.heap H locs → lv_has ls 6 [(0, .ref h0), (1, .int p1), (2, .int p2), (3, .int ev), (4, .int (nI i))] → W p l e ({ frames := 1, cells := 0, slots := 0, locals := 21 }) s m ([.ref h0, .int p1, .int p2] : List Value).toArray below meth c H locs 0 0 Q (F0 m 17 ls []) := by
    intro k_
    induction k_ with
    | zero => intro i ev H locs ls hk_; exact absurd hk_ (Nat.not_lt_zero _)
    | succ k_ ih =>
      intro i ev H locs ls hk_ hi he hP hD hS hl
      refine lv_iload hx hb d_Wo_isShortName_17 (lv_at hl 4 rfl) ?_
      refine lv_bipush (v := 11) hx hb d_Wo_isShortName_19 (by decide) ?_
      refine lv_icmp_ge (tgt := 91) hx hb d_Wo_isShortName_21 (by decide) (fun c_1 => ?_) (fun c_1 => ?_)
      · have hi9 : 11 ≤ i := (nI_leI (a := 11) (by decide) (by omega)).mp c_1
        refine lv_iconst (v := 1) hx hb d_Wo_isShortName_91 (by decide) ?_
        rw [hQ]
        exact W.zret (v := 1) hx hb hr rfl (fun t ht hW => ⟨⟨1, (), rfl, by rw [← he, show 11 - i = 0 by omega]; rfl, by rw [ht]; exact hP, va_K.moved hW.alike hK, hD⟩, hS.F ht⟩) hS.2.2 d_Wo_isShortName_92
      · have hlt : i < 11 := Nat.lt_of_not_le (fun h => c_1 ((nI_leI (a := 11) (by decide) (by omega)).mpr h))
        refine lv_aload_n hx hb d_Wo_isShortName_24 rfl (lv_at hl 0 rfl) ?_
        refine lv_iload_n hx hb d_Wo_isShortName_25 rfl (lv_at hl 1 rfl) ?_
        refine lv_iload hx hb d_Wo_isShortName_26 (lv_at hl 4 rfl) ?_
        refine lv_iadd hx hb d_Wo_isShortName_28 ?_
        have hPc := hP.sub (ws' := [(h0, .inr (0, [.int sec, .ref h1, .int pw])), (h1, .inl (cB, n, .inl f))]) [0, 1] rfl
        have hDc := hD.sub (ws' := [(h0, .inr (0, [.int sec, .ref h1, .int pw])), (h1, .inl (cB, n, .inl f))]) [0, 1] (by decide) rfl
        have hKc := hK.sub (tys' := [(cB, .byte)]) [0] rfl
        have hFc := va_free (wc := [(h0, .inr (0, [.int sec, .ref h1, .int pw])), (h1, .inl (cB, n, .inl f))]) hD hS hA [0, 1] rfl
        refine va_calli (va_runV (As := [.int (p1 + (nI i))]) (rest := []) ⟨hx, hb, hml, hown, hts⟩ (c_Dk_one l dC dI h0 h1 H.size cB sec pw n f h4 hn (p1 + (nI i))) (cwV 1 hts (gwV good_Wo (k_Wo_3) (u_Wo_Dk _ k_Dk_20) (u_Wo_Dk _ k_Dk_21) (u_Wo_Dk _ k_Dk_0) (wcs (u_Wo_Dk _ k_Dk_22) u_Wo_Dk)) rfl rfl rfl (by decide +kernel) ⟨Nat.le_of_ble_eq_true rfl, Nat.le_of_ble_eq_true rfl⟩) (pv_of hPc hKc hDc (va_recv hKc hPc (ci := 0) (q0 := 0) rfl rfl)) rfl rfl hl.1 rfl (lv_room (Nat.le_of_ble_eq_true rfl)) d_Wo_isShortName_29 ⟨by decide, by decide⟩) hS (fun q _ h => hFc q h) hFc (fun r_2 u t H1 locs ht hvm hw hB hz1 hk1 hS => ?_)
        obtain ⟨er_2, rfl⟩ := hw
        obtain ⟨hP1, hK1, hD1⟩ := hB
        rw [ht] at hP1
        have hP1 : va_P (dC, dI) classes [(h0, .inr (0, [.int sec, .ref h1, .int pw])), (h1, .inl (cB, n, .inl f))] H1 := hP1
        have hD1 : va_D _ [(h0, .inr (0, [.int sec, .ref h1, .int pw])), (h1, .inl (cB, n, .inl f))] := hD1
        obtain ⟨hP, hD⟩ := va_join (wr := []) (w1 := [(h0, .inr (0, [.int sec, .ref h1, .int pw])), (h1, .inl (cB, n, .inl f))]) hP hD [0, 1] [] rfl rfl (by decide) (by decide) hk1 hFc hP1 hD1
        generalize H1 = H at hP hS ⊢
        have hP : va_P (dC, dI) classes [(h0, .inr (0, [.int sec, .ref h1, .int pw])), (h1, .inl (cB, n, .inl f))] H := hP
        have hD : va_D A [(h0, .inr (0, [.int sec, .ref h1, .int pw])), (h1, .inl (cB, n, .inl f))] := hD
        refine lv_istore (lv' := [(5, .int r_2), (0, .ref h0), (1, .int p1), (2, .int p2), (3, .int ev), (4, .int (nI i))]) hx hb d_Wo_isShortName_32 hl (by decide) rfl (fun ls hl => ?_)
        refine lv_iload_n hx hb d_Wo_isShortName_34 rfl (lv_at hl 4 rfl) ?_
        refine lv_if_eq (tgt := 49) hx hb d_Wo_isShortName_35 (by decide) (fun c_3 => ?_) (fun c_3 => ?_)
        · refine lv_iconst (v := 0) hx hb d_Wo_isShortName_49 (by decide) ?_
          refine lv_istore_n (lv' := [(3, .int 0), (5, .int r_2), (0, .ref h0), (1, .int p1), (2, .int p2), (4, .int (nI i))]) hx hb d_Wo_isShortName_50 rfl hl (by decide) rfl (fun ls hl => ?_)
          refine lv_iload hx hb d_Wo_isShortName_51 (lv_at hl 1 rfl) ?_
          refine lv_bipush (v := 32) hx hb d_Wo_isShortName_53 (by decide) ?_
          refine lv_icmp_ne (tgt := 71) hx hb d_Wo_isShortName_55 (by decide) (fun c_4 => ?_) (fun c_4 => ?_)
          · refine lv_iload_n hx hb d_Wo_isShortName_71 rfl (lv_at hl 0 rfl) ?_
            refine lv_if_ne (tgt := 83) hx hb d_Wo_isShortName_72 (by decide) (fun c_5 => ?_) (fun c_5 => ?_)
            · exact absurd c_5 (by decide)
            · refine lv_iload hx hb d_Wo_isShortName_75 (lv_at hl 1 rfl) ?_
              have hPc := hP.sub (ws' := []) [] rfl
              have hDc := hD.sub (ws' := []) [] (by decide) rfl
              have hKc := hK.sub (tys' := []) [] rfl
              have hFc := va_free (wc := []) hD hS hA [] rfl
              refine va_calli (va_runS (As := [.int r_2]) (rest := []) ⟨hx, hb, hml, hown, hts⟩ (c_Wo_mayBeShort l dC dI H.size r_2) (va_cwS 1 hts (gwS good_Wo (k_Wo_4) (k_Wo_5) (k_Wo_0) (wcs (k_Wo_6) (fun _ h => h))) rfl rfl rfl (by decide +kernel) ⟨Nat.le_of_ble_eq_true rfl, Nat.le_of_ble_eq_true rfl⟩) (ps_of hPc hKc hDc) rfl rfl hl.1 rfl (lv_room (Nat.le_of_ble_eq_true rfl)) d_Wo_isShortName_77 ⟨by decide, by decide⟩) hS (fun q _ h => hFc q h) hFc (fun r_6 u t H1 locs ht hvm hw hB hz1 hk1 hS => ?_)
              have er_6 := hw
              obtain ⟨hP1, hK1, hD1⟩ := hB
              rw [ht] at hP1
              have hP1 : va_P (dC, dI) classes [] H1 := hP1
              have hD1 : va_D _ [] := hD1
              obtain ⟨hP, hD⟩ := va_join (wr := [(h0, .inr (0, [.int sec, .ref h1, .int pw])), (h1, .inl (cB, n, .inl f))]) (w1 := []) hP hD [] [0, 1] rfl rfl (by decide) (by decide) hk1 hFc hP1 hD1
              generalize H1 = H at hP hS ⊢
              have hP : va_P (dC, dI) classes [(h0, .inr (0, [.int sec, .ref h1, .int pw])), (h1, .inl (cB, n, .inl f))] H := hP
              have hD : va_D A [(h0, .inr (0, [.int sec, .ref h1, .int pw])), (h1, .inl (cB, n, .inl f))] := hD
              refine lv_if_ne (tgt := 85) hx hb d_Wo_isShortName_80 (by decide) (fun c_7 => ?_) (fun c_7 => ?_)
              · refine lv_iinc (v := nI (i + 1)) (lv' := [(4, .int (nI (i + 1))), (3, .int 0), (5, .int r_2), (0, .ref h0), (1, .int p1), (2, .int p2)]) hx hb d_Wo_isShortName_85 hl (k := 5) rfl (by exact nI_1 i) (by decide) rfl (fun ls hl => ?_)
                refine lv_goto (tgt := 17) hx hb d_Wo_isShortName_88 (by decide) ?_
                obtain ⟨k9, hk9⟩ : ∃ k, 11 - i = k + 1 := ⟨11 - i - 1, by omega⟩
                have he9 : wo_snF n f p1 p2 (11 - (i + 1)) (i + 1) 0 = wo_sn n f p1 p2 := by rw [← he, hk9, show 11 - (i + 1) = k9 by omega, wo_snF]; (try rw [if_neg c_1]); (try rw [← er_2]); (try rw [if_pos c_3]); (try rw [if_neg c_4]); (try rw [← er_6]); (try rw [if_neg c_7])
                exact ih (i + 1) 0 _ _ _ (by omega) hlt he9 hP hD hS (lv_sub hl [3, 4, 5, 1, 0] rfl)
              · refine lv_iconst (v := 0) hx hb d_Wo_isShortName_83 (by decide) ?_
                rw [hQ]
                exact W.zret (v := 0) hx hb hr rfl (fun t ht hW => ⟨⟨0, (), rfl, by obtain ⟨k9, hk9⟩ : ∃ k, 11 - i = k + 1 := ⟨11 - i - 1, by omega⟩; rw [← he, hk9, wo_snF]; (try rw [if_neg c_1]); (try rw [← er_2]); (try rw [if_pos c_3]); (try rw [if_neg c_4]); (try rw [← er_6]); (try rw [if_pos c_7]), by rw [ht]; exact hP, va_K.moved hW.alike hK, hD⟩, hS.F ht⟩) hS.2.2 d_Wo_isShortName_84
          · refine lv_iload_n hx hb d_Wo_isShortName_58 rfl (lv_at hl 4 rfl) ?_
            refine lv_if_ne (tgt := 66) hx hb d_Wo_isShortName_59 (by decide) (fun c_8 => ?_) (fun c_8 => ?_)
            · refine lv_iconst (v := 0) hx hb d_Wo_isShortName_66 (by decide) ?_
              refine lv_istore_n (lv' := [(3, .int 0), (5, .int r_2), (0, .ref h0), (1, .int p1), (2, .int p2), (4, .int (nI i))]) hx hb d_Wo_isShortName_67 rfl hl (by decide) rfl (fun ls hl => ?_)
              refine lv_goto (tgt := 85) hx hb d_Wo_isShortName_68 (by decide) ?_
              refine lv_iinc (v := nI (i + 1)) (lv' := [(4, .int (nI (i + 1))), (3, .int 0), (5, .int r_2), (0, .ref h0), (1, .int p1), (2, .int p2)]) hx hb d_Wo_isShortName_85 hl (k := 5) rfl (by exact nI_1 i) (by decide) rfl (fun ls hl => ?_)
              refine lv_goto (tgt := 17) hx hb d_Wo_isShortName_88 (by decide) ?_
              obtain ⟨k9, hk9⟩ : ∃ k, 11 - i = k + 1 := ⟨11 - i - 1, by omega⟩
              have he9 : wo_snF n f p1 p2 (11 - (i + 1)) (i + 1) 0 = wo_sn n f p1 p2 := by rw [← he, hk9, show 11 - (i + 1) = k9 by omega, wo_snF]; (try rw [if_neg c_1]); (try rw [← er_2]); (try rw [if_pos c_3]); (try rw [if_pos c_4]); (try rw [if_neg c_8])
              exact ih (i + 1) 0 _ _ _ (by omega) hlt he9 hP hD hS (lv_sub hl [3, 4, 5, 1, 0] rfl)
            · refine lv_iconst (v := 1) hx hb d_Wo_isShortName_62 (by decide) ?_
              refine lv_goto (tgt := 67) hx hb d_Wo_isShortName_63 (by decide) ?_
              refine lv_istore_n (lv' := [(3, .int 1), (5, .int r_2), (0, .ref h0), (1, .int p1), (2, .int p2), (4, .int (nI i))]) hx hb d_Wo_isShortName_67 rfl hl (by decide) rfl (fun ls hl => ?_)
              refine lv_goto (tgt := 85) hx hb d_Wo_isShortName_68 (by decide) ?_
              refine lv_iinc (v := nI (i + 1)) (lv' := [(4, .int (nI (i + 1))), (3, .int 1), (5, .int r_2), (0, .ref h0), (1, .int p1), (2, .int p2)]) hx hb d_Wo_isShortName_85 hl (k := 5) rfl (by exact nI_1 i) (by decide) rfl (fun ls hl => ?_)
              refine lv_goto (tgt := 17) hx hb d_Wo_isShortName_88 (by decide) ?_
              obtain ⟨k9, hk9⟩ : ∃ k, 11 - i = k + 1 := ⟨11 - i - 1, by omega⟩
              have he9 : wo_snF n f p1 p2 (11 - (i + 1)) (i + 1) 1 = wo_sn n f p1 p2 := by rw [← he, hk9, show 11 - (i + 1) = k9 by omega, wo_snF]; (try rw [if_neg c_1]); (try rw [← er_2]); (try rw [if_pos c_3]); (try rw [if_pos c_4]); (try rw [if_pos c_8])
              exact ih (i + 1) 1 _ _ _ (by omega) hlt he9 hP hD hS (lv_sub hl [3, 4, 5, 1, 0] rfl)
        · refine lv_iload hx hb d_Wo_isShortName_38 (lv_at hl 5 rfl) ?_
          refine lv_bipush (v := 8) hx hb d_Wo_isShortName_40 (by decide) ?_
          refine lv_icmp_eq (tgt := 49) hx hb d_Wo_isShortName_42 (by decide) (fun c_9 => ?_) (fun c_9 => ?_)
          · refine lv_iconst (v := 0) hx hb d_Wo_isShortName_49 (by decide) ?_
            refine lv_istore_n (lv' := [(3, .int 0), (5, .int r_2), (0, .ref h0), (1, .int p1), (2, .int p2), (4, .int (nI i))]) hx hb d_Wo_isShortName_50 rfl hl (by decide) rfl (fun ls hl => ?_)
            refine lv_iload hx hb d_Wo_isShortName_51 (lv_at hl 1 rfl) ?_
            refine lv_bipush (v := 32) hx hb d_Wo_isShortName_53 (by decide) ?_
            refine lv_icmp_ne (tgt := 71) hx hb d_Wo_isShortName_55 (by decide) (fun c_10 => ?_) (fun c_10 => ?_)
            · refine lv_iload_n hx hb d_Wo_isShortName_71 rfl (lv_at hl 0 rfl) ?_
              refine lv_if_ne (tgt := 83) hx hb d_Wo_isShortName_72 (by decide) (fun c_11 => ?_) (fun c_11 => ?_)
              · exact absurd c_11 (by decide)
              · refine lv_iload hx hb d_Wo_isShortName_75 (lv_at hl 1 rfl) ?_
                have hPc := hP.sub (ws' := []) [] rfl
                have hDc := hD.sub (ws' := []) [] (by decide) rfl
                have hKc := hK.sub (tys' := []) [] rfl
                have hFc := va_free (wc := []) hD hS hA [] rfl
                refine va_calli (va_runS (As := [.int r_2]) (rest := []) ⟨hx, hb, hml, hown, hts⟩ (c_Wo_mayBeShort l dC dI H.size r_2) (va_cwS 1 hts (gwS good_Wo (k_Wo_4) (k_Wo_5) (k_Wo_0) (wcs (k_Wo_6) (fun _ h => h))) rfl rfl rfl (by decide +kernel) ⟨Nat.le_of_ble_eq_true rfl, Nat.le_of_ble_eq_true rfl⟩) (ps_of hPc hKc hDc) rfl rfl hl.1 rfl (lv_room (Nat.le_of_ble_eq_true rfl)) d_Wo_isShortName_77 ⟨by decide, by decide⟩) hS (fun q _ h => hFc q h) hFc (fun r_12 u t H1 locs ht hvm hw hB hz1 hk1 hS => ?_)
                have er_12 := hw
                obtain ⟨hP1, hK1, hD1⟩ := hB
                rw [ht] at hP1
                have hP1 : va_P (dC, dI) classes [] H1 := hP1
                have hD1 : va_D _ [] := hD1
                obtain ⟨hP, hD⟩ := va_join (wr := [(h0, .inr (0, [.int sec, .ref h1, .int pw])), (h1, .inl (cB, n, .inl f))]) (w1 := []) hP hD [] [0, 1] rfl rfl (by decide) (by decide) hk1 hFc hP1 hD1
                generalize H1 = H at hP hS ⊢
                have hP : va_P (dC, dI) classes [(h0, .inr (0, [.int sec, .ref h1, .int pw])), (h1, .inl (cB, n, .inl f))] H := hP
                have hD : va_D A [(h0, .inr (0, [.int sec, .ref h1, .int pw])), (h1, .inl (cB, n, .inl f))] := hD
                refine lv_if_ne (tgt := 85) hx hb d_Wo_isShortName_80 (by decide) (fun c_13 => ?_) (fun c_13 => ?_)
                · refine lv_iinc (v := nI (i + 1)) (lv' := [(4, .int (nI (i + 1))), (3, .int 0), (5, .int r_2), (0, .ref h0), (1, .int p1), (2, .int p2)]) hx hb d_Wo_isShortName_85 hl (k := 5) rfl (by exact nI_1 i) (by decide) rfl (fun ls hl => ?_)
                  refine lv_goto (tgt := 17) hx hb d_Wo_isShortName_88 (by decide) ?_
                  obtain ⟨k9, hk9⟩ : ∃ k, 11 - i = k + 1 := ⟨11 - i - 1, by omega⟩
                  have he9 : wo_snF n f p1 p2 (11 - (i + 1)) (i + 1) 0 = wo_sn n f p1 p2 := by rw [← he, hk9, show 11 - (i + 1) = k9 by omega, wo_snF]; (try rw [if_neg c_1]); (try rw [← er_2]); (try rw [if_neg c_3]); (try rw [if_pos c_9]); (try rw [if_neg c_10]); (try rw [← er_12]); (try rw [if_neg c_13])
                  exact ih (i + 1) 0 _ _ _ (by omega) hlt he9 hP hD hS (lv_sub hl [3, 4, 5, 1, 0] rfl)
                · refine lv_iconst (v := 0) hx hb d_Wo_isShortName_83 (by decide) ?_
                  rw [hQ]
                  exact W.zret (v := 0) hx hb hr rfl (fun t ht hW => ⟨⟨0, (), rfl, by obtain ⟨k9, hk9⟩ : ∃ k, 11 - i = k + 1 := ⟨11 - i - 1, by omega⟩; rw [← he, hk9, wo_snF]; (try rw [if_neg c_1]); (try rw [← er_2]); (try rw [if_neg c_3]); (try rw [if_pos c_9]); (try rw [if_neg c_10]); (try rw [← er_12]); (try rw [if_pos c_13]), by rw [ht]; exact hP, va_K.moved hW.alike hK, hD⟩, hS.F ht⟩) hS.2.2 d_Wo_isShortName_84
            · refine lv_iload_n hx hb d_Wo_isShortName_58 rfl (lv_at hl 4 rfl) ?_
              refine lv_if_ne (tgt := 66) hx hb d_Wo_isShortName_59 (by decide) (fun c_14 => ?_) (fun c_14 => ?_)
              · refine lv_iconst (v := 0) hx hb d_Wo_isShortName_66 (by decide) ?_
                refine lv_istore_n (lv' := [(3, .int 0), (5, .int r_2), (0, .ref h0), (1, .int p1), (2, .int p2), (4, .int (nI i))]) hx hb d_Wo_isShortName_67 rfl hl (by decide) rfl (fun ls hl => ?_)
                refine lv_goto (tgt := 85) hx hb d_Wo_isShortName_68 (by decide) ?_
                refine lv_iinc (v := nI (i + 1)) (lv' := [(4, .int (nI (i + 1))), (3, .int 0), (5, .int r_2), (0, .ref h0), (1, .int p1), (2, .int p2)]) hx hb d_Wo_isShortName_85 hl (k := 5) rfl (by exact nI_1 i) (by decide) rfl (fun ls hl => ?_)
                refine lv_goto (tgt := 17) hx hb d_Wo_isShortName_88 (by decide) ?_
                obtain ⟨k9, hk9⟩ : ∃ k, 11 - i = k + 1 := ⟨11 - i - 1, by omega⟩
                have he9 : wo_snF n f p1 p2 (11 - (i + 1)) (i + 1) 0 = wo_sn n f p1 p2 := by rw [← he, hk9, show 11 - (i + 1) = k9 by omega, wo_snF]; (try rw [if_neg c_1]); (try rw [← er_2]); (try rw [if_neg c_3]); (try rw [if_pos c_9]); (try rw [if_pos c_10]); (try rw [if_neg c_14])
                exact ih (i + 1) 0 _ _ _ (by omega) hlt he9 hP hD hS (lv_sub hl [3, 4, 5, 1, 0] rfl)
              · refine lv_iconst (v := 1) hx hb d_Wo_isShortName_62 (by decide) ?_
                refine lv_goto (tgt := 67) hx hb d_Wo_isShortName_63 (by decide) ?_
                refine lv_istore_n (lv' := [(3, .int 1), (5, .int r_2), (0, .ref h0), (1, .int p1), (2, .int p2), (4, .int (nI i))]) hx hb d_Wo_isShortName_67 rfl hl (by decide) rfl (fun ls hl => ?_)
                refine lv_goto (tgt := 85) hx hb d_Wo_isShortName_68 (by decide) ?_
                refine lv_iinc (v := nI (i + 1)) (lv' := [(4, .int (nI (i + 1))), (3, .int 1), (5, .int r_2), (0, .ref h0), (1, .int p1), (2, .int p2)]) hx hb d_Wo_isShortName_85 hl (k := 5) rfl (by exact nI_1 i) (by decide) rfl (fun ls hl => ?_)
                refine lv_goto (tgt := 17) hx hb d_Wo_isShortName_88 (by decide) ?_
                obtain ⟨k9, hk9⟩ : ∃ k, 11 - i = k + 1 := ⟨11 - i - 1, by omega⟩
                have he9 : wo_snF n f p1 p2 (11 - (i + 1)) (i + 1) 1 = wo_sn n f p1 p2 := by rw [← he, hk9, show 11 - (i + 1) = k9 by omega, wo_snF]; (try rw [if_neg c_1]); (try rw [← er_2]); (try rw [if_neg c_3]); (try rw [if_pos c_9]); (try rw [if_pos c_10]); (try rw [if_pos c_14])
                exact ih (i + 1) 1 _ _ _ (by omega) hlt he9 hP hD hS (lv_sub hl [3, 4, 5, 1, 0] rfl)
          · refine lv_iconst (v := 1) hx hb d_Wo_isShortName_45 (by decide) ?_
            refine lv_goto (tgt := 50) hx hb d_Wo_isShortName_46 (by decide) ?_
            refine lv_istore_n (lv' := [(3, .int 1), (5, .int r_2), (0, .ref h0), (1, .int p1), (2, .int p2), (4, .int (nI i))]) hx hb d_Wo_isShortName_50 rfl hl (by decide) rfl (fun ls hl => ?_)
            refine lv_iload hx hb d_Wo_isShortName_51 (lv_at hl 1 rfl) ?_
            refine lv_bipush (v := 32) hx hb d_Wo_isShortName_53 (by decide) ?_
            refine lv_icmp_ne (tgt := 71) hx hb d_Wo_isShortName_55 (by decide) (fun c_15 => ?_) (fun c_15 => ?_)
            · refine lv_iload_n hx hb d_Wo_isShortName_71 rfl (lv_at hl 0 rfl) ?_
              refine lv_if_ne (tgt := 83) hx hb d_Wo_isShortName_72 (by decide) (fun c_16 => ?_) (fun c_16 => ?_)
              · refine lv_iconst (v := 0) hx hb d_Wo_isShortName_83 (by decide) ?_
                rw [hQ]
                exact W.zret (v := 0) hx hb hr rfl (fun t ht hW => ⟨⟨0, (), rfl, by obtain ⟨k9, hk9⟩ : ∃ k, 11 - i = k + 1 := ⟨11 - i - 1, by omega⟩; rw [← he, hk9, wo_snF]; (try rw [if_neg c_1]); (try rw [← er_2]); (try rw [if_neg c_3]); (try rw [if_neg c_9]); (try rw [if_neg c_15]), by rw [ht]; exact hP, va_K.moved hW.alike hK, hD⟩, hS.F ht⟩) hS.2.2 d_Wo_isShortName_84
              · exact absurd c_16 (by decide)
            · refine lv_iload_n hx hb d_Wo_isShortName_58 rfl (lv_at hl 4 rfl) ?_
              refine lv_if_ne (tgt := 66) hx hb d_Wo_isShortName_59 (by decide) (fun c_17 => ?_) (fun c_17 => ?_)
              · refine lv_iconst (v := 0) hx hb d_Wo_isShortName_66 (by decide) ?_
                refine lv_istore_n (lv' := [(3, .int 0), (5, .int r_2), (0, .ref h0), (1, .int p1), (2, .int p2), (4, .int (nI i))]) hx hb d_Wo_isShortName_67 rfl hl (by decide) rfl (fun ls hl => ?_)
                refine lv_goto (tgt := 85) hx hb d_Wo_isShortName_68 (by decide) ?_
                refine lv_iinc (v := nI (i + 1)) (lv' := [(4, .int (nI (i + 1))), (3, .int 0), (5, .int r_2), (0, .ref h0), (1, .int p1), (2, .int p2)]) hx hb d_Wo_isShortName_85 hl (k := 5) rfl (by exact nI_1 i) (by decide) rfl (fun ls hl => ?_)
                refine lv_goto (tgt := 17) hx hb d_Wo_isShortName_88 (by decide) ?_
                obtain ⟨k9, hk9⟩ : ∃ k, 11 - i = k + 1 := ⟨11 - i - 1, by omega⟩
                have he9 : wo_snF n f p1 p2 (11 - (i + 1)) (i + 1) 0 = wo_sn n f p1 p2 := by rw [← he, hk9, show 11 - (i + 1) = k9 by omega, wo_snF]; (try rw [if_neg c_1]); (try rw [← er_2]); (try rw [if_neg c_3]); (try rw [if_neg c_9]); (try rw [if_pos c_15]); (try rw [if_neg c_17])
                exact ih (i + 1) 0 _ _ _ (by omega) hlt he9 hP hD hS (lv_sub hl [3, 4, 5, 1, 0] rfl)
              · refine lv_iconst (v := 1) hx hb d_Wo_isShortName_62 (by decide) ?_
                refine lv_goto (tgt := 67) hx hb d_Wo_isShortName_63 (by decide) ?_
                refine lv_istore_n (lv' := [(3, .int 1), (5, .int r_2), (0, .ref h0), (1, .int p1), (2, .int p2), (4, .int (nI i))]) hx hb d_Wo_isShortName_67 rfl hl (by decide) rfl (fun ls hl => ?_)
                refine lv_goto (tgt := 85) hx hb d_Wo_isShortName_68 (by decide) ?_
                refine lv_iinc (v := nI (i + 1)) (lv' := [(4, .int (nI (i + 1))), (3, .int 1), (5, .int r_2), (0, .ref h0), (1, .int p1), (2, .int p2)]) hx hb d_Wo_isShortName_85 hl (k := 5) rfl (by exact nI_1 i) (by decide) rfl (fun ls hl => ?_)
                refine lv_goto (tgt := 17) hx hb d_Wo_isShortName_88 (by decide) ?_
                obtain ⟨k9, hk9⟩ : ∃ k, 11 - i = k + 1 := ⟨11 - i - 1, by omega⟩
                have he9 : wo_snF n f p1 p2 (11 - (i + 1)) (i + 1) 1 = wo_sn n f p1 p2 := by rw [← he, hk9, show 11 - (i + 1) = k9 by omega, wo_snF]; (try rw [if_neg c_1]); (try rw [← er_2]); (try rw [if_neg c_3]); (try rw [if_neg c_9]); (try rw [if_pos c_15]); (try rw [if_pos c_17])
                exact ih (i + 1) 1 _ _ _ (by omega) hlt he9 hP hD hS (lv_sub hl [3, 4, 5, 1, 0] rfl)
  refine lv_aload_n hx hb d_Wo_isShortName_0 rfl (lv_at hl 0 rfl) ?_
  refine lv_iload_n hx hb d_Wo_isShortName_1 rfl (lv_at hl 1 rfl) ?_
  have hPc := hP.sub (ws' := [(h0, .inr (0, [.int sec, .ref h1, .int pw])), (h1, .inl (cB, n, .inl f))]) [0, 1] rfl
  have hDc := hD.sub (ws' := [(h0, .inr (0, [.int sec, .ref h1, .int pw])), (h1, .inl (cB, n, .inl f))]) [0, 1] (by decide) rfl
  have hKc := hK.sub (tys' := [(cB, .byte)]) [0] rfl
  have hFc := va_free (wc := [(h0, .inr (0, [.int sec, .ref h1, .int pw])), (h1, .inl (cB, n, .inl f))]) hD hS hA [0, 1] rfl
  refine va_calli (va_runV (As := [.int p1]) (rest := []) ⟨hx, hb, hml, hown, hts⟩ (c_Dk_one l dC dI h0 h1 s.heap.size cB sec pw n f h4 hn p1) (cwV 1 hts (gwV good_Wo (k_Wo_3) (u_Wo_Dk _ k_Dk_20) (u_Wo_Dk _ k_Dk_21) (u_Wo_Dk _ k_Dk_0) (wcs (u_Wo_Dk _ k_Dk_22) u_Wo_Dk)) rfl rfl rfl (by decide +kernel) ⟨Nat.le_of_ble_eq_true rfl, Nat.le_of_ble_eq_true rfl⟩) (pv_of hPc hKc hDc (va_recv hKc hPc (ci := 0) (q0 := 0) rfl rfl)) rfl rfl hl.1 rfl (lv_room (Nat.le_of_ble_eq_true rfl)) d_Wo_isShortName_2 ⟨by decide, by decide⟩) hS (fun q _ h => hFc q h) hFc (fun r_18 u t H1 locs ht hvm hw hB hz1 hk1 hS => ?_)
  obtain ⟨er_18, rfl⟩ := hw
  obtain ⟨hP1, hK1, hD1⟩ := hB
  rw [ht] at hP1
  have hP1 : va_P (dC, dI) classes [(h0, .inr (0, [.int sec, .ref h1, .int pw])), (h1, .inl (cB, n, .inl f))] H1 := hP1
  have hD1 : va_D _ [(h0, .inr (0, [.int sec, .ref h1, .int pw])), (h1, .inl (cB, n, .inl f))] := hD1
  obtain ⟨hP, hD⟩ := va_join (wr := []) (w1 := [(h0, .inr (0, [.int sec, .ref h1, .int pw])), (h1, .inl (cB, n, .inl f))]) hP hD [0, 1] [] rfl rfl (by decide) (by decide) hk1 hFc hP1 hD1
  generalize H1 = H at hP hS ⊢
  have hP : va_P (dC, dI) classes [(h0, .inr (0, [.int sec, .ref h1, .int pw])), (h1, .inl (cB, n, .inl f))] H := hP
  have hD : va_D A [(h0, .inr (0, [.int sec, .ref h1, .int pw])), (h1, .inl (cB, n, .inl f))] := hD
  refine lv_bipush (v := 32) hx hb d_Wo_isShortName_5 (by decide) ?_
  refine lv_icmp_ne (tgt := 12) hx hb d_Wo_isShortName_7 (by decide) (fun c_19 => ?_) (fun c_19 => ?_)
  · refine lv_iconst (v := 0) hx hb d_Wo_isShortName_12 (by decide) ?_
    refine lv_istore_n (lv' := [(3, .int 0), (0, .ref h0), (1, .int p1), (2, .int p2)]) hx hb d_Wo_isShortName_13 rfl hl (by decide) rfl (fun ls hl => ?_)
    refine lv_iconst (v := 0) hx hb d_Wo_isShortName_14 (by decide) ?_
    refine lv_istore (lv' := [(4, .int 0), (3, .int 0), (0, .ref h0), (1, .int p1), (2, .int p2)]) hx hb d_Wo_isShortName_15 hl (by decide) rfl (fun ls hl => ?_)
    exact hL17 12 0 0 _ _ _ (by omega) (Nat.zero_le _) (by rw [wo_sn]; (try rw [← er_18]); (try rw [if_neg c_19])) hP hD hS (lv_sub hl [2, 3, 4, 1, 0] rfl)
  · refine lv_iconst (v := 0) hx hb d_Wo_isShortName_10 (by decide) ?_
    rw [hQ]
    exact W.zret (v := 0) hx hb hr rfl (fun t ht hW => ⟨⟨0, (), rfl, by rw [wo_sn]; (try rw [← er_18]); (try rw [if_pos c_19]), by rw [ht]; exact hP, va_K.moved hW.alike hK, hD⟩, hS.F ht⟩) hS.2.2 d_Wo_isShortName_11
