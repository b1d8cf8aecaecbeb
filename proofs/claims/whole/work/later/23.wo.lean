def wo_short48 (p0 : Int32) : Int32 := if p0 = 33 then (1) else if p0 = 45 then (1) else if p0 = 64 then (1) else if p0 = 123 then (1) else if p0 = 125 then (1) else if p0 = 126 then (1) else (0)
def wo_short36 (p0 : Int32) : Int32 := if p0 < 94 then (wo_short48 p0) else if p0 ≤ 96 then (1) else (wo_short48 p0)
def wo_short24 (p0 : Int32) : Int32 := if p0 < 35 then (wo_short36 p0) else if p0 ≤ 41 then (1) else (wo_short36 p0)
def wo_short12 (p0 : Int32) : Int32 := if p0 < 48 then (wo_short24 p0) else if p0 ≤ 57 then (1) else (wo_short24 p0)
def wo_short (p0 : Int32) : Int32 := if p0 < 65 then (wo_short12 p0) else if p0 ≤ 90 then (1) else (wo_short12 p0)
set_option maxHeartbeats 4000000 in
set_option maxRecDepth 100000 in
theorem c_Wo_mayBeShort (l : Launch) (dC : Nat → ClassId) (dI : Nat → Nat → Nat) (sz : Nat) (p0 : Int32) : Met l y_Wo_mayBeShort (.code y_Wo_mayBeShort b_Wo_mayBeShort 1 (some .boolean) :: V_Wo) ({ frames := 0, cells := 0, slots := 0, locals := 0 }) (va_Pc [.int p0] (fun U => U.heap.size = sz ∧ at_ (dC, dI) (fun _ => True) [] [] U)) (va_Qi (fun (r : Int32) (u : Unit) => r = wo_short p0) (fun (u : Unit) t => at_ (dC, dI) (va_A [] sz) [] [] t) (va_A [] sz)) 0 0 (va_A [] sz) := by
  refine Met.ofW (cc := b_Wo_mayBeShort) (maxL := 1) (ret := (some .boolean)) (by decide) rfl ?_
  intro p e s m args below meth c s₁ B hml hv
  obtain ⟨rfl, hsz, hP, hK, hD0⟩ := hv
  have hx := B.exec
  have hb := B.bytes
  have hr := B.returns
  have hts0 := atoms_spec (ws := .code y_Wo_mayBeShort b_Wo_mayBeShort 1 (some .boolean) :: V_Wo) B.pre
  have hts : ∀ w ∈ V_Wo, w.before ([.int p0] : List Value).toArray s = true := fun w h => hts0 w (List.mem_cons_of_mem _ h)
  have hown : s.vm.findClass R_Wo = some m.cls := findClass_of_methodNamed B.named
  have hlocks := B.notSynchronized
  subst hsz
  have hD := hD0.self (sz := s.heap.size)
  generalize hAe : va_A [] s.heap.size = A at hD ⊢
  have hA : ∀ q : Nat, s.heap.size ≤ q → A q := fun q h => by rw [← hAe]; exact Or.inr h
  have hS : va_S A s.heap s.heap [] := va_S.rf
  have hP : va_P (dC, dI) classes [] s.heap := hP
  have hK : va_K (dC, dI) classes [] s := hK
  have hl := lv_entry ([.int p0]) (n := 1) (Nat.le_of_ble_eq_true rfl)
  rw [lg_entry_eq]
  generalize (lg_sl ([.int p0]) ++ List.replicate (1 - (lg_sl ([.int p0])).length) Slot.unset).toArray = ls at hl ⊢
  have hl : lv_has ls 1 [(0, .int p0)] := hl
  refine lv_iload_n hx hb d_Wo_mayBeShort_0 rfl (lv_at hl 0 rfl) ?_
  refine lv_bipush (v := 65) hx hb d_Wo_mayBeShort_1 (by decide) ?_
  refine lv_icmp_lt (tgt := 12) hx hb d_Wo_mayBeShort_3 (by decide) (fun c_1 => ?_) (fun c_1 => ?_)
  · refine lv_iload_n hx hb d_Wo_mayBeShort_12 rfl (lv_at hl 0 rfl) ?_
    refine lv_bipush (v := 48) hx hb d_Wo_mayBeShort_13 (by decide) ?_
    refine lv_icmp_lt (tgt := 24) hx hb d_Wo_mayBeShort_15 (by decide) (fun c_2 => ?_) (fun c_2 => ?_)
    · refine lv_iload_n hx hb d_Wo_mayBeShort_24 rfl (lv_at hl 0 rfl) ?_
      refine lv_bipush (v := 35) hx hb d_Wo_mayBeShort_25 (by decide) ?_
      refine lv_icmp_lt (tgt := 36) hx hb d_Wo_mayBeShort_27 (by decide) (fun c_3 => ?_) (fun c_3 => ?_)
      · refine lv_iload_n hx hb d_Wo_mayBeShort_36 rfl (lv_at hl 0 rfl) ?_
        refine lv_bipush (v := 94) hx hb d_Wo_mayBeShort_37 (by decide) ?_
        refine lv_icmp_lt (tgt := 48) hx hb d_Wo_mayBeShort_39 (by decide) (fun c_4 => ?_) (fun c_4 => ?_)
        · refine lv_iload_n hx hb d_Wo_mayBeShort_48 rfl (lv_at hl 0 rfl) ?_
          refine lv_bipush (v := 33) hx hb d_Wo_mayBeShort_49 (by decide) ?_
          refine lv_icmp_eq (tgt := 84) hx hb d_Wo_mayBeShort_51 (by decide) (fun c_5 => ?_) (fun c_5 => ?_)
          · refine lv_iconst (v := 1) hx hb d_Wo_mayBeShort_84 (by decide) ?_
            refine lv_goto (tgt := 89) hx hb d_Wo_mayBeShort_85 (by decide) ?_
            exact W.zret (v := 1) hx hb hr rfl (fun t ht hW => ⟨⟨1, (), rfl, by rw [wo_short, if_pos c_1, wo_short12, if_pos c_2, wo_short24, if_pos c_3, wo_short36, if_pos c_4, wo_short48, if_pos c_5], by rw [ht]; exact hP, va_K.moved hW.alike hK, hD⟩, hS.F ht⟩) hS.2.2 d_Wo_mayBeShort_89
          · refine lv_iload_n hx hb d_Wo_mayBeShort_54 rfl (lv_at hl 0 rfl) ?_
            refine lv_bipush (v := 45) hx hb d_Wo_mayBeShort_55 (by decide) ?_
            refine lv_icmp_eq (tgt := 84) hx hb d_Wo_mayBeShort_57 (by decide) (fun c_6 => ?_) (fun c_6 => ?_)
            · refine lv_iconst (v := 1) hx hb d_Wo_mayBeShort_84 (by decide) ?_
              refine lv_goto (tgt := 89) hx hb d_Wo_mayBeShort_85 (by decide) ?_
              exact W.zret (v := 1) hx hb hr rfl (fun t ht hW => ⟨⟨1, (), rfl, by rw [wo_short, if_pos c_1, wo_short12, if_pos c_2, wo_short24, if_pos c_3, wo_short36, if_pos c_4, wo_short48, if_neg c_5, if_pos c_6], by rw [ht]; exact hP, va_K.moved hW.alike hK, hD⟩, hS.F ht⟩) hS.2.2 d_Wo_mayBeShort_89
            · refine lv_iload_n hx hb d_Wo_mayBeShort_60 rfl (lv_at hl 0 rfl) ?_
              refine lv_bipush (v := 64) hx hb d_Wo_mayBeShort_61 (by decide) ?_
              refine lv_icmp_eq (tgt := 84) hx hb d_Wo_mayBeShort_63 (by decide) (fun c_7 => ?_) (fun c_7 => ?_)
              · refine lv_iconst (v := 1) hx hb d_Wo_mayBeShort_84 (by decide) ?_
                refine lv_goto (tgt := 89) hx hb d_Wo_mayBeShort_85 (by decide) ?_
                exact W.zret (v := 1) hx hb hr rfl (fun t ht hW => ⟨⟨1, (), rfl, by rw [wo_short, if_pos c_1, wo_short12, if_pos c_2, wo_short24, if_pos c_3, wo_short36, if_pos c_4, wo_short48, if_neg c_5, if_neg c_6, if_pos c_7], by rw [ht]; exact hP, va_K.moved hW.alike hK, hD⟩, hS.F ht⟩) hS.2.2 d_Wo_mayBeShort_89
              · refine lv_iload_n hx hb d_Wo_mayBeShort_66 rfl (lv_at hl 0 rfl) ?_
                refine lv_bipush (v := 123) hx hb d_Wo_mayBeShort_67 (by decide) ?_
                refine lv_icmp_eq (tgt := 84) hx hb d_Wo_mayBeShort_69 (by decide) (fun c_8 => ?_) (fun c_8 => ?_)
                · refine lv_iconst (v := 1) hx hb d_Wo_mayBeShort_84 (by decide) ?_
                  refine lv_goto (tgt := 89) hx hb d_Wo_mayBeShort_85 (by decide) ?_
                  exact W.zret (v := 1) hx hb hr rfl (fun t ht hW => ⟨⟨1, (), rfl, by rw [wo_short, if_pos c_1, wo_short12, if_pos c_2, wo_short24, if_pos c_3, wo_short36, if_pos c_4, wo_short48, if_neg c_5, if_neg c_6, if_neg c_7, if_pos c_8], by rw [ht]; exact hP, va_K.moved hW.alike hK, hD⟩, hS.F ht⟩) hS.2.2 d_Wo_mayBeShort_89
                · refine lv_iload_n hx hb d_Wo_mayBeShort_72 rfl (lv_at hl 0 rfl) ?_
                  refine lv_bipush (v := 125) hx hb d_Wo_mayBeShort_73 (by decide) ?_
                  refine lv_icmp_eq (tgt := 84) hx hb d_Wo_mayBeShort_75 (by decide) (fun c_9 => ?_) (fun c_9 => ?_)
                  · refine lv_iconst (v := 1) hx hb d_Wo_mayBeShort_84 (by decide) ?_
                    refine lv_goto (tgt := 89) hx hb d_Wo_mayBeShort_85 (by decide) ?_
                    exact W.zret (v := 1) hx hb hr rfl (fun t ht hW => ⟨⟨1, (), rfl, by rw [wo_short, if_pos c_1, wo_short12, if_pos c_2, wo_short24, if_pos c_3, wo_short36, if_pos c_4, wo_short48, if_neg c_5, if_neg c_6, if_neg c_7, if_neg c_8, if_pos c_9], by rw [ht]; exact hP, va_K.moved hW.alike hK, hD⟩, hS.F ht⟩) hS.2.2 d_Wo_mayBeShort_89
                  · refine lv_iload_n hx hb d_Wo_mayBeShort_78 rfl (lv_at hl 0 rfl) ?_
                    refine lv_bipush (v := 126) hx hb d_Wo_mayBeShort_79 (by decide) ?_
                    refine lv_icmp_ne (tgt := 88) hx hb d_Wo_mayBeShort_81 (by decide) (fun c_10 => ?_) (fun c_10 => ?_)
                    · refine lv_iconst (v := 0) hx hb d_Wo_mayBeShort_88 (by decide) ?_
                      exact W.zret (v := 0) hx hb hr rfl (fun t ht hW => ⟨⟨0, (), rfl, by rw [wo_short, if_pos c_1, wo_short12, if_pos c_2, wo_short24, if_pos c_3, wo_short36, if_pos c_4, wo_short48, if_neg c_5, if_neg c_6, if_neg c_7, if_neg c_8, if_neg c_9, if_neg c_10], by rw [ht]; exact hP, va_K.moved hW.alike hK, hD⟩, hS.F ht⟩) hS.2.2 d_Wo_mayBeShort_89
                    · refine lv_iconst (v := 1) hx hb d_Wo_mayBeShort_84 (by decide) ?_
                      refine lv_goto (tgt := 89) hx hb d_Wo_mayBeShort_85 (by decide) ?_
                      exact W.zret (v := 1) hx hb hr rfl (fun t ht hW => ⟨⟨1, (), rfl, by rw [wo_short, if_pos c_1, wo_short12, if_pos c_2, wo_short24, if_pos c_3, wo_short36, if_pos c_4, wo_short48, if_neg c_5, if_neg c_6, if_neg c_7, if_neg c_8, if_neg c_9, if_pos c_10], by rw [ht]; exact hP, va_K.moved hW.alike hK, hD⟩, hS.F ht⟩) hS.2.2 d_Wo_mayBeShort_89
        · refine lv_iload_n hx hb d_Wo_mayBeShort_42 rfl (lv_at hl 0 rfl) ?_
          refine lv_bipush (v := 96) hx hb d_Wo_mayBeShort_43 (by decide) ?_
          refine lv_icmp_le (tgt := 84) hx hb d_Wo_mayBeShort_45 (by decide) (fun c_11 => ?_) (fun c_11 => ?_)
          · refine lv_iconst (v := 1) hx hb d_Wo_mayBeShort_84 (by decide) ?_
            refine lv_goto (tgt := 89) hx hb d_Wo_mayBeShort_85 (by decide) ?_
            exact W.zret (v := 1) hx hb hr rfl (fun t ht hW => ⟨⟨1, (), rfl, by rw [wo_short, if_pos c_1, wo_short12, if_pos c_2, wo_short24, if_pos c_3, wo_short36, if_neg c_4, if_pos c_11], by rw [ht]; exact hP, va_K.moved hW.alike hK, hD⟩, hS.F ht⟩) hS.2.2 d_Wo_mayBeShort_89
          · refine lv_iload_n hx hb d_Wo_mayBeShort_48 rfl (lv_at hl 0 rfl) ?_
            refine lv_bipush (v := 33) hx hb d_Wo_mayBeShort_49 (by decide) ?_
            refine lv_icmp_eq (tgt := 84) hx hb d_Wo_mayBeShort_51 (by decide) (fun c_12 => ?_) (fun c_12 => ?_)
            · refine lv_iconst (v := 1) hx hb d_Wo_mayBeShort_84 (by decide) ?_
              refine lv_goto (tgt := 89) hx hb d_Wo_mayBeShort_85 (by decide) ?_
              exact W.zret (v := 1) hx hb hr rfl (fun t ht hW => ⟨⟨1, (), rfl, by rw [wo_short, if_pos c_1, wo_short12, if_pos c_2, wo_short24, if_pos c_3, wo_short36, if_neg c_4, if_neg c_11, wo_short48, if_pos c_12], by rw [ht]; exact hP, va_K.moved hW.alike hK, hD⟩, hS.F ht⟩) hS.2.2 d_Wo_mayBeShort_89
            · refine lv_iload_n hx hb d_Wo_mayBeShort_54 rfl (lv_at hl 0 rfl) ?_
              refine lv_bipush (v := 45) hx hb d_Wo_mayBeShort_55 (by decide) ?_
              refine lv_icmp_eq (tgt := 84) hx hb d_Wo_mayBeShort_57 (by decide) (fun c_13 => ?_) (fun c_13 => ?_)
              · refine lv_iconst (v := 1) hx hb d_Wo_mayBeShort_84 (by decide) ?_
                refine lv_goto (tgt := 89) hx hb d_Wo_mayBeShort_85 (by decide) ?_
                exact W.zret (v := 1) hx hb hr rfl (fun t ht hW => ⟨⟨1, (), rfl, by rw [wo_short, if_pos c_1, wo_short12, if_pos c_2, wo_short24, if_pos c_3, wo_short36, if_neg c_4, if_neg c_11, wo_short48, if_neg c_12, if_pos c_13], by rw [ht]; exact hP, va_K.moved hW.alike hK, hD⟩, hS.F ht⟩) hS.2.2 d_Wo_mayBeShort_89
              · refine lv_iload_n hx hb d_Wo_mayBeShort_60 rfl (lv_at hl 0 rfl) ?_
                refine lv_bipush (v := 64) hx hb d_Wo_mayBeShort_61 (by decide) ?_
                refine lv_icmp_eq (tgt := 84) hx hb d_Wo_mayBeShort_63 (by decide) (fun c_14 => ?_) (fun c_14 => ?_)
                · refine lv_iconst (v := 1) hx hb d_Wo_mayBeShort_84 (by decide) ?_
                  refine lv_goto (tgt := 89) hx hb d_Wo_mayBeShort_85 (by decide) ?_
                  exact W.zret (v := 1) hx hb hr rfl (fun t ht hW => ⟨⟨1, (), rfl, by rw [wo_short, if_pos c_1, wo_short12, if_pos c_2, wo_short24, if_pos c_3, wo_short36, if_neg c_4, if_neg c_11, wo_short48, if_neg c_12, if_neg c_13, if_pos c_14], by rw [ht]; exact hP, va_K.moved hW.alike hK, hD⟩, hS.F ht⟩) hS.2.2 d_Wo_mayBeShort_89
                · refine lv_iload_n hx hb d_Wo_mayBeShort_66 rfl (lv_at hl 0 rfl) ?_
                  refine lv_bipush (v := 123) hx hb d_Wo_mayBeShort_67 (by decide) ?_
                  refine lv_icmp_eq (tgt := 84) hx hb d_Wo_mayBeShort_69 (by decide) (fun c_15 => ?_) (fun c_15 => ?_)
                  · refine lv_iconst (v := 1) hx hb d_Wo_mayBeShort_84 (by decide) ?_
                    refine lv_goto (tgt := 89) hx hb d_Wo_mayBeShort_85 (by decide) ?_
                    exact W.zret (v := 1) hx hb hr rfl (fun t ht hW => ⟨⟨1, (), rfl, by rw [wo_short, if_pos c_1, wo_short12, if_pos c_2, wo_short24, if_pos c_3, wo_short36, if_neg c_4, if_neg c_11, wo_short48, if_neg c_12, if_neg c_13, if_neg c_14, if_pos c_15], by rw [ht]; exact hP, va_K.moved hW.alike hK, hD⟩, hS.F ht⟩) hS.2.2 d_Wo_mayBeShort_89
                  · refine lv_iload_n hx hb d_Wo_mayBeShort_72 rfl (lv_at hl 0 rfl) ?_
                    refine lv_bipush (v := 125) hx hb d_Wo_mayBeShort_73 (by decide) ?_
                    refine lv_icmp_eq (tgt := 84) hx hb d_Wo_mayBeShort_75 (by decide) (fun c_16 => ?_) (fun c_16 => ?_)
                    · refine lv_iconst (v := 1) hx hb d_Wo_mayBeShort_84 (by decide) ?_
                      refine lv_goto (tgt := 89) hx hb d_Wo_mayBeShort_85 (by decide) ?_
                      exact W.zret (v := 1) hx hb hr rfl (fun t ht hW => ⟨⟨1, (), rfl, by rw [wo_short, if_pos c_1, wo_short12, if_pos c_2, wo_short24, if_pos c_3, wo_short36, if_neg c_4, if_neg c_11, wo_short48, if_neg c_12, if_neg c_13, if_neg c_14, if_neg c_15, if_pos c_16], by rw [ht]; exact hP, va_K.moved hW.alike hK, hD⟩, hS.F ht⟩) hS.2.2 d_Wo_mayBeShort_89
                    · refine lv_iload_n hx hb d_Wo_mayBeShort_78 rfl (lv_at hl 0 rfl) ?_
                      refine lv_bipush (v := 126) hx hb d_Wo_mayBeShort_79 (by decide) ?_
                      refine lv_icmp_ne (tgt := 88) hx hb d_Wo_mayBeShort_81 (by decide) (fun c_17 => ?_) (fun c_17 => ?_)
                      · refine lv_iconst (v := 0) hx hb d_Wo_mayBeShort_88 (by decide) ?_
                        exact W.zret (v := 0) hx hb hr rfl (fun t ht hW => ⟨⟨0, (), rfl, by rw [wo_short, if_pos c_1, wo_short12, if_pos c_2, wo_short24, if_pos c_3, wo_short36, if_neg c_4, if_neg c_11, wo_short48, if_neg c_12, if_neg c_13, if_neg c_14, if_neg c_15, if_neg c_16, if_neg c_17], by rw [ht]; exact hP, va_K.moved hW.alike hK, hD⟩, hS.F ht⟩) hS.2.2 d_Wo_mayBeShort_89
                      · refine lv_iconst (v := 1) hx hb d_Wo_mayBeShort_84 (by decide) ?_
                        refine lv_goto (tgt := 89) hx hb d_Wo_mayBeShort_85 (by decide) ?_
                        exact W.zret (v := 1) hx hb hr rfl (fun t ht hW => ⟨⟨1, (), rfl, by rw [wo_short, if_pos c_1, wo_short12, if_pos c_2, wo_short24, if_pos c_3, wo_short36, if_neg c_4, if_neg c_11, wo_short48, if_neg c_12, if_neg c_13, if_neg c_14, if_neg c_15, if_neg c_16, if_pos c_17], by rw [ht]; exact hP, va_K.moved hW.alike hK, hD⟩, hS.F ht⟩) hS.2.2 d_Wo_mayBeShort_89
      · refine lv_iload_n hx hb d_Wo_mayBeShort_30 rfl (lv_at hl 0 rfl) ?_
        refine lv_bipush (v := 41) hx hb d_Wo_mayBeShort_31 (by decide) ?_
        refine lv_icmp_le (tgt := 84) hx hb d_Wo_mayBeShort_33 (by decide) (fun c_18 => ?_) (fun c_18 => ?_)
        · refine lv_iconst (v := 1) hx hb d_Wo_mayBeShort_84 (by decide) ?_
          refine lv_goto (tgt := 89) hx hb d_Wo_mayBeShort_85 (by decide) ?_
          exact W.zret (v := 1) hx hb hr rfl (fun t ht hW => ⟨⟨1, (), rfl, by rw [wo_short, if_pos c_1, wo_short12, if_pos c_2, wo_short24, if_neg c_3, if_pos c_18], by rw [ht]; exact hP, va_K.moved hW.alike hK, hD⟩, hS.F ht⟩) hS.2.2 d_Wo_mayBeShort_89
        · refine lv_iload_n hx hb d_Wo_mayBeShort_36 rfl (lv_at hl 0 rfl) ?_
          refine lv_bipush (v := 94) hx hb d_Wo_mayBeShort_37 (by decide) ?_
          refine lv_icmp_lt (tgt := 48) hx hb d_Wo_mayBeShort_39 (by decide) (fun c_19 => ?_) (fun c_19 => ?_)
          · refine lv_iload_n hx hb d_Wo_mayBeShort_48 rfl (lv_at hl 0 rfl) ?_
            refine lv_bipush (v := 33) hx hb d_Wo_mayBeShort_49 (by decide) ?_
            refine lv_icmp_eq (tgt := 84) hx hb d_Wo_mayBeShort_51 (by decide) (fun c_20 => ?_) (fun c_20 => ?_)
            · refine lv_iconst (v := 1) hx hb d_Wo_mayBeShort_84 (by decide) ?_
              refine lv_goto (tgt := 89) hx hb d_Wo_mayBeShort_85 (by decide) ?_
              exact W.zret (v := 1) hx hb hr rfl (fun t ht hW => ⟨⟨1, (), rfl, by rw [wo_short, if_pos c_1, wo_short12, if_pos c_2, wo_short24, if_neg c_3, if_neg c_18, wo_short36, if_pos c_19, wo_short48, if_pos c_20], by rw [ht]; exact hP, va_K.moved hW.alike hK, hD⟩, hS.F ht⟩) hS.2.2 d_Wo_mayBeShort_89
            · refine lv_iload_n hx hb d_Wo_mayBeShort_54 rfl (lv_at hl 0 rfl) ?_
              refine lv_bipush (v := 45) hx hb d_Wo_mayBeShort_55 (by decide) ?_
              refine lv_icmp_eq (tgt := 84) hx hb d_Wo_mayBeShort_57 (by decide) (fun c_21 => ?_) (fun c_21 => ?_)
              · refine lv_iconst (v := 1) hx hb d_Wo_mayBeShort_84 (by decide) ?_
                refine lv_goto (tgt := 89) hx hb d_Wo_mayBeShort_85 (by decide) ?_
                exact W.zret (v := 1) hx hb hr rfl (fun t ht hW => ⟨⟨1, (), rfl, by rw [wo_short, if_pos c_1, wo_short12, if_pos c_2, wo_short24, if_neg c_3, if_neg c_18, wo_short36, if_pos c_19, wo_short48, if_neg c_20, if_pos c_21], by rw [ht]; exact hP, va_K.moved hW.alike hK, hD⟩, hS.F ht⟩) hS.2.2 d_Wo_mayBeShort_89
              · refine lv_iload_n hx hb d_Wo_mayBeShort_60 rfl (lv_at hl 0 rfl) ?_
                refine lv_bipush (v := 64) hx hb d_Wo_mayBeShort_61 (by decide) ?_
                refine lv_icmp_eq (tgt := 84) hx hb d_Wo_mayBeShort_63 (by decide) (fun c_22 => ?_) (fun c_22 => ?_)
                · refine lv_iconst (v := 1) hx hb d_Wo_mayBeShort_84 (by decide) ?_
                  refine lv_goto (tgt := 89) hx hb d_Wo_mayBeShort_85 (by decide) ?_
                  exact W.zret (v := 1) hx hb hr rfl (fun t ht hW => ⟨⟨1, (), rfl, by rw [wo_short, if_pos c_1, wo_short12, if_pos c_2, wo_short24, if_neg c_3, if_neg c_18, wo_short36, if_pos c_19, wo_short48, if_neg c_20, if_neg c_21, if_pos c_22], by rw [ht]; exact hP, va_K.moved hW.alike hK, hD⟩, hS.F ht⟩) hS.2.2 d_Wo_mayBeShort_89
                · refine lv_iload_n hx hb d_Wo_mayBeShort_66 rfl (lv_at hl 0 rfl) ?_
                  refine lv_bipush (v := 123) hx hb d_Wo_mayBeShort_67 (by decide) ?_
                  refine lv_icmp_eq (tgt := 84) hx hb d_Wo_mayBeShort_69 (by decide) (fun c_23 => ?_) (fun c_23 => ?_)
                  · refine lv_iconst (v := 1) hx hb d_Wo_mayBeShort_84 (by decide) ?_
                    refine lv_goto (tgt := 89) hx hb d_Wo_mayBeShort_85 (by decide) ?_
                    exact W.zret (v := 1) hx hb hr rfl (fun t ht hW => ⟨⟨1, (), rfl, by rw [wo_short, if_pos c_1, wo_short12, if_pos c_2, wo_short24, if_neg c_3, if_neg c_18, wo_short36, if_pos c_19, wo_short48, if_neg c_20, if_neg c_21, if_neg c_22, if_pos c_23], by rw [ht]; exact hP, va_K.moved hW.alike hK, hD⟩, hS.F ht⟩) hS.2.2 d_Wo_mayBeShort_89
                  · refine lv_iload_n hx hb d_Wo_mayBeShort_72 rfl (lv_at hl 0 rfl) ?_
                    refine lv_bipush (v := 125) hx hb d_Wo_mayBeShort_73 (by decide) ?_
                    refine lv_icmp_eq (tgt := 84) hx hb d_Wo_mayBeShort_75 (by decide) (fun c_24 => ?_) (fun c_24 => ?_)
                    · refine lv_iconst (v := 1) hx hb d_Wo_mayBeShort_84 (by decide) ?_
                      refine lv_goto (tgt := 89) hx hb d_Wo_mayBeShort_85 (by decide) ?_
                      exact W.zret (v := 1) hx hb hr rfl (fun t ht hW => ⟨⟨1, (), rfl, by rw [wo_short, if_pos c_1, wo_short12, if_pos c_2, wo_short24, if_neg c_3, if_neg c_18, wo_short36, if_pos c_19, wo_short48, if_neg c_20, if_neg c_21, if_neg c_22, if_neg c_23, if_pos c_24], by rw [ht]; exact hP, va_K.moved hW.alike hK, hD⟩, hS.F ht⟩) hS.2.2 d_Wo_mayBeShort_89
                    · refine lv_iload_n hx hb d_Wo_mayBeShort_78 rfl (lv_at hl 0 rfl) ?_
                      refine lv_bipush (v := 126) hx hb d_Wo_mayBeShort_79 (by decide) ?_
                      refine lv_icmp_ne (tgt := 88) hx hb d_Wo_mayBeShort_81 (by decide) (fun c_25 => ?_) (fun c_25 => ?_)
                      · refine lv_iconst (v := 0) hx hb d_Wo_mayBeShort_88 (by decide) ?_
                        exact W.zret (v := 0) hx hb hr rfl (fun t ht hW => ⟨⟨0, (), rfl, by rw [wo_short, if_pos c_1, wo_short12, if_pos c_2, wo_short24, if_neg c_3, if_neg c_18, wo_short36, if_pos c_19, wo_short48, if_neg c_20, if_neg c_21, if_neg c_22, if_neg c_23, if_neg c_24, if_neg c_25], by rw [ht]; exact hP, va_K.moved hW.alike hK, hD⟩, hS.F ht⟩) hS.2.2 d_Wo_mayBeShort_89
                      · refine lv_iconst (v := 1) hx hb d_Wo_mayBeShort_84 (by decide) ?_
                        refine lv_goto (tgt := 89) hx hb d_Wo_mayBeShort_85 (by decide) ?_
                        exact W.zret (v := 1) hx hb hr rfl (fun t ht hW => ⟨⟨1, (), rfl, by rw [wo_short, if_pos c_1, wo_short12, if_pos c_2, wo_short24, if_neg c_3, if_neg c_18, wo_short36, if_pos c_19, wo_short48, if_neg c_20, if_neg c_21, if_neg c_22, if_neg c_23, if_neg c_24, if_pos c_25], by rw [ht]; exact hP, va_K.moved hW.alike hK, hD⟩, hS.F ht⟩) hS.2.2 d_Wo_mayBeShort_89
          · refine lv_iload_n hx hb d_Wo_mayBeShort_42 rfl (lv_at hl 0 rfl) ?_
            refine lv_bipush (v := 96) hx hb d_Wo_mayBeShort_43 (by decide) ?_
            refine lv_icmp_le (tgt := 84) hx hb d_Wo_mayBeShort_45 (by decide) (fun c_26 => ?_) (fun c_26 => ?_)
            · refine lv_iconst (v := 1) hx hb d_Wo_mayBeShort_84 (by decide) ?_
              refine lv_goto (tgt := 89) hx hb d_Wo_mayBeShort_85 (by decide) ?_
              exact W.zret (v := 1) hx hb hr rfl (fun t ht hW => ⟨⟨1, (), rfl, by rw [wo_short, if_pos c_1, wo_short12, if_pos c_2, wo_short24, if_neg c_3, if_neg c_18, wo_short36, if_neg c_19, if_pos c_26], by rw [ht]; exact hP, va_K.moved hW.alike hK, hD⟩, hS.F ht⟩) hS.2.2 d_Wo_mayBeShort_89
            · refine lv_iload_n hx hb d_Wo_mayBeShort_48 rfl (lv_at hl 0 rfl) ?_
              refine lv_bipush (v := 33) hx hb d_Wo_mayBeShort_49 (by decide) ?_
              refine lv_icmp_eq (tgt := 84) hx hb d_Wo_mayBeShort_51 (by decide) (fun c_27 => ?_) (fun c_27 => ?_)
              · refine lv_iconst (v := 1) hx hb d_Wo_mayBeShort_84 (by decide) ?_
                refine lv_goto (tgt := 89) hx hb d_Wo_mayBeShort_85 (by decide) ?_
                exact W.zret (v := 1) hx hb hr rfl (fun t ht hW => ⟨⟨1, (), rfl, by rw [wo_short, if_pos c_1, wo_short12, if_pos c_2, wo_short24, if_neg c_3, if_neg c_18, wo_short36, if_neg c_19, if_neg c_26, wo_short48, if_pos c_27], by rw [ht]; exact hP, va_K.moved hW.alike hK, hD⟩, hS.F ht⟩) hS.2.2 d_Wo_mayBeShort_89
              · refine lv_iload_n hx hb d_Wo_mayBeShort_54 rfl (lv_at hl 0 rfl) ?_
                refine lv_bipush (v := 45) hx hb d_Wo_mayBeShort_55 (by decide) ?_
                refine lv_icmp_eq (tgt := 84) hx hb d_Wo_mayBeShort_57 (by decide) (fun c_28 => ?_) (fun c_28 => ?_)
                · refine lv_iconst (v := 1) hx hb d_Wo_mayBeShort_84 (by decide) ?_
                  refine lv_goto (tgt := 89) hx hb d_Wo_mayBeShort_85 (by decide) ?_
                  exact W.zret (v := 1) hx hb hr rfl (fun t ht hW => ⟨⟨1, (), rfl, by rw [wo_short, if_pos c_1, wo_short12, if_pos c_2, wo_short24, if_neg c_3, if_neg c_18, wo_short36, if_neg c_19, if_neg c_26, wo_short48, if_neg c_27, if_pos c_28], by rw [ht]; exact hP, va_K.moved hW.alike hK, hD⟩, hS.F ht⟩) hS.2.2 d_Wo_mayBeShort_89
                · refine lv_iload_n hx hb d_Wo_mayBeShort_60 rfl (lv_at hl 0 rfl) ?_
                  refine lv_bipush (v := 64) hx hb d_Wo_mayBeShort_61 (by decide) ?_
                  refine lv_icmp_eq (tgt := 84) hx hb d_Wo_mayBeShort_63 (by decide) (fun c_29 => ?_) (fun c_29 => ?_)
                  · refine lv_iconst (v := 1) hx hb d_Wo_mayBeShort_84 (by decide) ?_
                    refine lv_goto (tgt := 89) hx hb d_Wo_mayBeShort_85 (by decide) ?_
                    exact W.zret (v := 1) hx hb hr rfl (fun t ht hW => ⟨⟨1, (), rfl, by rw [wo_short, if_pos c_1, wo_short12, if_pos c_2, wo_short24, if_neg c_3, if_neg c_18, wo_short36, if_neg c_19, if_neg c_26, wo_short48, if_neg c_27, if_neg c_28, if_pos c_29], by rw [ht]; exact hP, va_K.moved hW.alike hK, hD⟩, hS.F ht⟩) hS.2.2 d_Wo_mayBeShort_89
                  · refine lv_iload_n hx hb d_Wo_mayBeShort_66 rfl (lv_at hl 0 rfl) ?_
                    refine lv_bipush (v := 123) hx hb d_Wo_mayBeShort_67 (by decide) ?_
                    refine lv_icmp_eq (tgt := 84) hx hb d_Wo_mayBeShort_69 (by decide) (fun c_30 => ?_) (fun c_30 => ?_)
                    · refine lv_iconst (v := 1) hx hb d_Wo_mayBeShort_84 (by decide) ?_
                      refine lv_goto (tgt := 89) hx hb d_Wo_mayBeShort_85 (by decide) ?_
                      exact W.zret (v := 1) hx hb hr rfl (fun t ht hW => ⟨⟨1, (), rfl, by rw [wo_short, if_pos c_1, wo_short12, if_pos c_2, wo_short24, if_neg c_3, if_neg c_18, wo_short36, if_neg c_19, if_neg c_26, wo_short48, if_neg c_27, if_neg c_28, if_neg c_29, if_pos c_30], by rw [ht]; exact hP, va_K.moved hW.alike hK, hD⟩, hS.F ht⟩) hS.2.2 d_Wo_mayBeShort_89
                    · refine lv_iload_n hx hb d_Wo_mayBeShort_72 rfl (lv_at hl 0 rfl) ?_
                      refine lv_bipush (v := 125) hx hb d_Wo_mayBeShort_73 (by decide) ?_
                      refine lv_icmp_eq (tgt := 84) hx hb d_Wo_mayBeShort_75 (by decide) (fun c_31 => ?_) (fun c_31 => ?_)
                      · refine lv_iconst (v := 1) hx hb d_Wo_mayBeShort_84 (by decide) ?_
                        refine lv_goto (tgt := 89) hx hb d_Wo_mayBeShort_85 (by decide) ?_
                        exact W.zret (v := 1) hx hb hr rfl (fun t ht hW => ⟨⟨1, (), rfl, by rw [wo_short, if_pos c_1, wo_short12, if_pos c_2, wo_short24, if_neg c_3, if_neg c_18, wo_short36, if_neg c_19, if_neg c_26, wo_short48, if_neg c_27, if_neg c_28, if_neg c_29, if_neg c_30, if_pos c_31], by rw [ht]; exact hP, va_K.moved hW.alike hK, hD⟩, hS.F ht⟩) hS.2.2 d_Wo_mayBeShort_89
                      · refine lv_iload_n hx hb d_Wo_mayBeShort_78 rfl (lv_at hl 0 rfl) ?_
                        refine lv_bipush (v := 126) hx hb d_Wo_mayBeShort_79 (by decide) ?_
                        refine lv_icmp_ne (tgt := 88) hx hb d_Wo_mayBeShort_81 (by decide) (fun c_32 => ?_) (fun c_32 => ?_)
                        · refine lv_iconst (v := 0) hx hb d_Wo_mayBeShort_88 (by decide) ?_
                          exact W.zret (v := 0) hx hb hr rfl (fun t ht hW => ⟨⟨0, (), rfl, by rw [wo_short, if_pos c_1, wo_short12, if_pos c_2, wo_short24, if_neg c_3, if_neg c_18, wo_short36, if_neg c_19, if_neg c_26, wo_short48, if_neg c_27, if_neg c_28, if_neg c_29, if_neg c_30, if_neg c_31, if_neg c_32], by rw [ht]; exact hP, va_K.moved hW.alike hK, hD⟩, hS.F ht⟩) hS.2.2 d_Wo_mayBeShort_89
                        · refine lv_iconst (v := 1) hx hb d_Wo_mayBeShort_84 (by decide) ?_
                          refine lv_goto (tgt := 89) hx hb d_Wo_mayBeShort_85 (by decide) ?_
                          exact W.zret (v := 1) hx hb hr rfl (fun t ht hW => ⟨⟨1, (), rfl, by rw [wo_short, if_pos c_1, wo_short12, if_pos c_2, wo_short24, if_neg c_3, if_neg c_18, wo_short36, if_neg c_19, if_neg c_26, wo_short48, if_neg c_27, if_neg c_28, if_neg c_29, if_neg c_30, if_neg c_31, if_pos c_32], by rw [ht]; exact hP, va_K.moved hW.alike hK, hD⟩, hS.F ht⟩) hS.2.2 d_Wo_mayBeShort_89
    · refine lv_iload_n hx hb d_Wo_mayBeShort_18 rfl (lv_at hl 0 rfl) ?_
      refine lv_bipush (v := 57) hx hb d_Wo_mayBeShort_19 (by decide) ?_
      refine lv_icmp_le (tgt := 84) hx hb d_Wo_mayBeShort_21 (by decide) (fun c_33 => ?_) (fun c_33 => ?_)
      · refine lv_iconst (v := 1) hx hb d_Wo_mayBeShort_84 (by decide) ?_
        refine lv_goto (tgt := 89) hx hb d_Wo_mayBeShort_85 (by decide) ?_
        exact W.zret (v := 1) hx hb hr rfl (fun t ht hW => ⟨⟨1, (), rfl, by rw [wo_short, if_pos c_1, wo_short12, if_neg c_2, if_pos c_33], by rw [ht]; exact hP, va_K.moved hW.alike hK, hD⟩, hS.F ht⟩) hS.2.2 d_Wo_mayBeShort_89
      · refine lv_iload_n hx hb d_Wo_mayBeShort_24 rfl (lv_at hl 0 rfl) ?_
        refine lv_bipush (v := 35) hx hb d_Wo_mayBeShort_25 (by decide) ?_
        refine lv_icmp_lt (tgt := 36) hx hb d_Wo_mayBeShort_27 (by decide) (fun c_34 => ?_) (fun c_34 => ?_)
        · refine lv_iload_n hx hb d_Wo_mayBeShort_36 rfl (lv_at hl 0 rfl) ?_
          refine lv_bipush (v := 94) hx hb d_Wo_mayBeShort_37 (by decide) ?_
          refine lv_icmp_lt (tgt := 48) hx hb d_Wo_mayBeShort_39 (by decide) (fun c_35 => ?_) (fun c_35 => ?_)
          · refine lv_iload_n hx hb d_Wo_mayBeShort_48 rfl (lv_at hl 0 rfl) ?_
            refine lv_bipush (v := 33) hx hb d_Wo_mayBeShort_49 (by decide) ?_
            refine lv_icmp_eq (tgt := 84) hx hb d_Wo_mayBeShort_51 (by decide) (fun c_36 => ?_) (fun c_36 => ?_)
            · refine lv_iconst (v := 1) hx hb d_Wo_mayBeShort_84 (by decide) ?_
              refine lv_goto (tgt := 89) hx hb d_Wo_mayBeShort_85 (by decide) ?_
              exact W.zret (v := 1) hx hb hr rfl (fun t ht hW => ⟨⟨1, (), rfl, by rw [wo_short, if_pos c_1, wo_short12, if_neg c_2, if_neg c_33, wo_short24, if_pos c_34, wo_short36, if_pos c_35, wo_short48, if_pos c_36], by rw [ht]; exact hP, va_K.moved hW.alike hK, hD⟩, hS.F ht⟩) hS.2.2 d_Wo_mayBeShort_89
            · refine lv_iload_n hx hb d_Wo_mayBeShort_54 rfl (lv_at hl 0 rfl) ?_
              refine lv_bipush (v := 45) hx hb d_Wo_mayBeShort_55 (by decide) ?_
              refine lv_icmp_eq (tgt := 84) hx hb d_Wo_mayBeShort_57 (by decide) (fun c_37 => ?_) (fun c_37 => ?_)
              · refine lv_iconst (v := 1) hx hb d_Wo_mayBeShort_84 (by decide) ?_
                refine lv_goto (tgt := 89) hx hb d_Wo_mayBeShort_85 (by decide) ?_
                exact W.zret (v := 1) hx hb hr rfl (fun t ht hW => ⟨⟨1, (), rfl, by rw [wo_short, if_pos c_1, wo_short12, if_neg c_2, if_neg c_33, wo_short24, if_pos c_34, wo_short36, if_pos c_35, wo_short48, if_neg c_36, if_pos c_37], by rw [ht]; exact hP, va_K.moved hW.alike hK, hD⟩, hS.F ht⟩) hS.2.2 d_Wo_mayBeShort_89
              · refine lv_iload_n hx hb d_Wo_mayBeShort_60 rfl (lv_at hl 0 rfl) ?_
                refine lv_bipush (v := 64) hx hb d_Wo_mayBeShort_61 (by decide) ?_
                refine lv_icmp_eq (tgt := 84) hx hb d_Wo_mayBeShort_63 (by decide) (fun c_38 => ?_) (fun c_38 => ?_)
                · refine lv_iconst (v := 1) hx hb d_Wo_mayBeShort_84 (by decide) ?_
                  refine lv_goto (tgt := 89) hx hb d_Wo_mayBeShort_85 (by decide) ?_
                  exact W.zret (v := 1) hx hb hr rfl (fun t ht hW => ⟨⟨1, (), rfl, by rw [wo_short, if_pos c_1, wo_short12, if_neg c_2, if_neg c_33, wo_short24, if_pos c_34, wo_short36, if_pos c_35, wo_short48, if_neg c_36, if_neg c_37, if_pos c_38], by rw [ht]; exact hP, va_K.moved hW.alike hK, hD⟩, hS.F ht⟩) hS.2.2 d_Wo_mayBeShort_89
                · refine lv_iload_n hx hb d_Wo_mayBeShort_66 rfl (lv_at hl 0 rfl) ?_
                  refine lv_bipush (v := 123) hx hb d_Wo_mayBeShort_67 (by decide) ?_
                  refine lv_icmp_eq (tgt := 84) hx hb d_Wo_mayBeShort_69 (by decide) (fun c_39 => ?_) (fun c_39 => ?_)
                  · refine lv_iconst (v := 1) hx hb d_Wo_mayBeShort_84 (by decide) ?_
                    refine lv_goto (tgt := 89) hx hb d_Wo_mayBeShort_85 (by decide) ?_
                    exact W.zret (v := 1) hx hb hr rfl (fun t ht hW => ⟨⟨1, (), rfl, by rw [wo_short, if_pos c_1, wo_short12, if_neg c_2, if_neg c_33, wo_short24, if_pos c_34, wo_short36, if_pos c_35, wo_short48, if_neg c_36, if_neg c_37, if_neg c_38, if_pos c_39], by rw [ht]; exact hP, va_K.moved hW.alike hK, hD⟩, hS.F ht⟩) hS.2.2 d_Wo_mayBeShort_89
                  · refine lv_iload_n hx hb d_Wo_mayBeShort_72 rfl (lv_at hl 0 rfl) ?_
                    refine lv_bipush (v := 125) hx hb d_Wo_mayBeShort_73 (by decide) ?_
                    refine lv_icmp_eq (tgt := 84) hx hb d_Wo_mayBeShort_75 (by decide) (fun c_40 => ?_) (fun c_40 => ?_)
                    · refine lv_iconst (v := 1) hx hb d_Wo_mayBeShort_84 (by decide) ?_
                      refine lv_goto (tgt := 89) hx hb d_Wo_mayBeShort_85 (by decide) ?_
                      exact W.zret (v := 1) hx hb hr rfl (fun t ht hW => ⟨⟨1, (), rfl, by rw [wo_short, if_pos c_1, wo_short12, if_neg c_2, if_neg c_33, wo_short24, if_pos c_34, wo_short36, if_pos c_35, wo_short48, if_neg c_36, if_neg c_37, if_neg c_38, if_neg c_39, if_pos c_40], by rw [ht]; exact hP, va_K.moved hW.alike hK, hD⟩, hS.F ht⟩) hS.2.2 d_Wo_mayBeShort_89
                    · refine lv_iload_n hx hb d_Wo_mayBeShort_78 rfl (lv_at hl 0 rfl) ?_
                      refine lv_bipush (v := 126) hx hb d_Wo_mayBeShort_79 (by decide) ?_
                      refine lv_icmp_ne (tgt := 88) hx hb d_Wo_mayBeShort_81 (by decide) (fun c_41 => ?_) (fun c_41 => ?_)
                      · refine lv_iconst (v := 0) hx hb d_Wo_mayBeShort_88 (by decide) ?_
                        exact W.zret (v := 0) hx hb hr rfl (fun t ht hW => ⟨⟨0, (), rfl, by rw [wo_short, if_pos c_1, wo_short12, if_neg c_2, if_neg c_33, wo_short24, if_pos c_34, wo_short36, if_pos c_35, wo_short48, if_neg c_36, if_neg c_37, if_neg c_38, if_neg c_39, if_neg c_40, if_neg c_41], by rw [ht]; exact hP, va_K.moved hW.alike hK, hD⟩, hS.F ht⟩) hS.2.2 d_Wo_mayBeShort_89
                      · refine lv_iconst (v := 1) hx hb d_Wo_mayBeShort_84 (by decide) ?_
                        refine lv_goto (tgt := 89) hx hb d_Wo_mayBeShort_85 (by decide) ?_
                        exact W.zret (v := 1) hx hb hr rfl (fun t ht hW => ⟨⟨1, (), rfl, by rw [wo_short, if_pos c_1, wo_short12, if_neg c_2, if_neg c_33, wo_short24, if_pos c_34, wo_short36, if_pos c_35, wo_short48, if_neg c_36, if_neg c_37, if_neg c_38, if_neg c_39, if_neg c_40, if_pos c_41], by rw [ht]; exact hP, va_K.moved hW.alike hK, hD⟩, hS.F ht⟩) hS.2.2 d_Wo_mayBeShort_89
          · refine lv_iload_n hx hb d_Wo_mayBeShort_42 rfl (lv_at hl 0 rfl) ?_
            refine lv_bipush (v := 96) hx hb d_Wo_mayBeShort_43 (by decide) ?_
            refine lv_icmp_le (tgt := 84) hx hb d_Wo_mayBeShort_45 (by decide) (fun c_42 => ?_) (fun c_42 => ?_)
            · refine lv_iconst (v := 1) hx hb d_Wo_mayBeShort_84 (by decide) ?_
              refine lv_goto (tgt := 89) hx hb d_Wo_mayBeShort_85 (by decide) ?_
              exact W.zret (v := 1) hx hb hr rfl (fun t ht hW => ⟨⟨1, (), rfl, by rw [wo_short, if_pos c_1, wo_short12, if_neg c_2, if_neg c_33, wo_short24, if_pos c_34, wo_short36, if_neg c_35, if_pos c_42], by rw [ht]; exact hP, va_K.moved hW.alike hK, hD⟩, hS.F ht⟩) hS.2.2 d_Wo_mayBeShort_89
            · refine lv_iload_n hx hb d_Wo_mayBeShort_48 rfl (lv_at hl 0 rfl) ?_
              refine lv_bipush (v := 33) hx hb d_Wo_mayBeShort_49 (by decide) ?_
              refine lv_icmp_eq (tgt := 84) hx hb d_Wo_mayBeShort_51 (by decide) (fun c_43 => ?_) (fun c_43 => ?_)
              · refine lv_iconst (v := 1) hx hb d_Wo_mayBeShort_84 (by decide) ?_
                refine lv_goto (tgt := 89) hx hb d_Wo_mayBeShort_85 (by decide) ?_
                exact W.zret (v := 1) hx hb hr rfl (fun t ht hW => ⟨⟨1, (), rfl, by rw [wo_short, if_pos c_1, wo_short12, if_neg c_2, if_neg c_33, wo_short24, if_pos c_34, wo_short36, if_neg c_35, if_neg c_42, wo_short48, if_pos c_43], by rw [ht]; exact hP, va_K.moved hW.alike hK, hD⟩, hS.F ht⟩) hS.2.2 d_Wo_mayBeShort_89
              · refine lv_iload_n hx hb d_Wo_mayBeShort_54 rfl (lv_at hl 0 rfl) ?_
                refine lv_bipush (v := 45) hx hb d_Wo_mayBeShort_55 (by decide) ?_
                refine lv_icmp_eq (tgt := 84) hx hb d_Wo_mayBeShort_57 (by decide) (fun c_44 => ?_) (fun c_44 => ?_)
                · refine lv_iconst (v := 1) hx hb d_Wo_mayBeShort_84 (by decide) ?_
                  refine lv_goto (tgt := 89) hx hb d_Wo_mayBeShort_85 (by decide) ?_
                  exact W.zret (v := 1) hx hb hr rfl (fun t ht hW => ⟨⟨1, (), rfl, by rw [wo_short, if_pos c_1, wo_short12, if_neg c_2, if_neg c_33, wo_short24, if_pos c_34, wo_short36, if_neg c_35, if_neg c_42, wo_short48, if_neg c_43, if_pos c_44], by rw [ht]; exact hP, va_K.moved hW.alike hK, hD⟩, hS.F ht⟩) hS.2.2 d_Wo_mayBeShort_89
                · refine lv_iload_n hx hb d_Wo_mayBeShort_60 rfl (lv_at hl 0 rfl) ?_
                  refine lv_bipush (v := 64) hx hb d_Wo_mayBeShort_61 (by decide) ?_
                  refine lv_icmp_eq (tgt := 84) hx hb d_Wo_mayBeShort_63 (by decide) (fun c_45 => ?_) (fun c_45 => ?_)
                  · refine lv_iconst (v := 1) hx hb d_Wo_mayBeShort_84 (by decide) ?_
                    refine lv_goto (tgt := 89) hx hb d_Wo_mayBeShort_85 (by decide) ?_
                    exact W.zret (v := 1) hx hb hr rfl (fun t ht hW => ⟨⟨1, (), rfl, by rw [wo_short, if_pos c_1, wo_short12, if_neg c_2, if_neg c_33, wo_short24, if_pos c_34, wo_short36, if_neg c_35, if_neg c_42, wo_short48, if_neg c_43, if_neg c_44, if_pos c_45], by rw [ht]; exact hP, va_K.moved hW.alike hK, hD⟩, hS.F ht⟩) hS.2.2 d_Wo_mayBeShort_89
                  · refine lv_iload_n hx hb d_Wo_mayBeShort_66 rfl (lv_at hl 0 rfl) ?_
                    refine lv_bipush (v := 123) hx hb d_Wo_mayBeShort_67 (by decide) ?_
                    refine lv_icmp_eq (tgt := 84) hx hb d_Wo_mayBeShort_69 (by decide) (fun c_46 => ?_) (fun c_46 => ?_)
                    · refine lv_iconst (v := 1) hx hb d_Wo_mayBeShort_84 (by decide) ?_
                      refine lv_goto (tgt := 89) hx hb d_Wo_mayBeShort_85 (by decide) ?_
                      exact W.zret (v := 1) hx hb hr rfl (fun t ht hW => ⟨⟨1, (), rfl, by rw [wo_short, if_pos c_1, wo_short12, if_neg c_2, if_neg c_33, wo_short24, if_pos c_34, wo_short36, if_neg c_35, if_neg c_42, wo_short48, if_neg c_43, if_neg c_44, if_neg c_45, if_pos c_46], by rw [ht]; exact hP, va_K.moved hW.alike hK, hD⟩, hS.F ht⟩) hS.2.2 d_Wo_mayBeShort_89
                    · refine lv_iload_n hx hb d_Wo_mayBeShort_72 rfl (lv_at hl 0 rfl) ?_
                      refine lv_bipush (v := 125) hx hb d_Wo_mayBeShort_73 (by decide) ?_
                      refine lv_icmp_eq (tgt := 84) hx hb d_Wo_mayBeShort_75 (by decide) (fun c_47 => ?_) (fun c_47 => ?_)
                      · refine lv_iconst (v := 1) hx hb d_Wo_mayBeShort_84 (by decide) ?_
                        refine lv_goto (tgt := 89) hx hb d_Wo_mayBeShort_85 (by decide) ?_
                        exact W.zret (v := 1) hx hb hr rfl (fun t ht hW => ⟨⟨1, (), rfl, by rw [wo_short, if_pos c_1, wo_short12, if_neg c_2, if_neg c_33, wo_short24, if_pos c_34, wo_short36, if_neg c_35, if_neg c_42, wo_short48, if_neg c_43, if_neg c_44, if_neg c_45, if_neg c_46, if_pos c_47], by rw [ht]; exact hP, va_K.moved hW.alike hK, hD⟩, hS.F ht⟩) hS.2.2 d_Wo_mayBeShort_89
                      · refine lv_iload_n hx hb d_Wo_mayBeShort_78 rfl (lv_at hl 0 rfl) ?_
                        refine lv_bipush (v := 126) hx hb d_Wo_mayBeShort_79 (by decide) ?_
                        refine lv_icmp_ne (tgt := 88) hx hb d_Wo_mayBeShort_81 (by decide) (fun c_48 => ?_) (fun c_48 => ?_)
                        · refine lv_iconst (v := 0) hx hb d_Wo_mayBeShort_88 (by decide) ?_
                          exact W.zret (v := 0) hx hb hr rfl (fun t ht hW => ⟨⟨0, (), rfl, by rw [wo_short, if_pos c_1, wo_short12, if_neg c_2, if_neg c_33, wo_short24, if_pos c_34, wo_short36, if_neg c_35, if_neg c_42, wo_short48, if_neg c_43, if_neg c_44, if_neg c_45, if_neg c_46, if_neg c_47, if_neg c_48], by rw [ht]; exact hP, va_K.moved hW.alike hK, hD⟩, hS.F ht⟩) hS.2.2 d_Wo_mayBeShort_89
                        · refine lv_iconst (v := 1) hx hb d_Wo_mayBeShort_84 (by decide) ?_
                          refine lv_goto (tgt := 89) hx hb d_Wo_mayBeShort_85 (by decide) ?_
                          exact W.zret (v := 1) hx hb hr rfl (fun t ht hW => ⟨⟨1, (), rfl, by rw [wo_short, if_pos c_1, wo_short12, if_neg c_2, if_neg c_33, wo_short24, if_pos c_34, wo_short36, if_neg c_35, if_neg c_42, wo_short48, if_neg c_43, if_neg c_44, if_neg c_45, if_neg c_46, if_neg c_47, if_pos c_48], by rw [ht]; exact hP, va_K.moved hW.alike hK, hD⟩, hS.F ht⟩) hS.2.2 d_Wo_mayBeShort_89
        · refine lv_iload_n hx hb d_Wo_mayBeShort_30 rfl (lv_at hl 0 rfl) ?_
          refine lv_bipush (v := 41) hx hb d_Wo_mayBeShort_31 (by decide) ?_
          refine lv_icmp_le (tgt := 84) hx hb d_Wo_mayBeShort_33 (by decide) (fun c_49 => ?_) (fun c_49 => ?_)
          · refine lv_iconst (v := 1) hx hb d_Wo_mayBeShort_84 (by decide) ?_
            refine lv_goto (tgt := 89) hx hb d_Wo_mayBeShort_85 (by decide) ?_
            exact W.zret (v := 1) hx hb hr rfl (fun t ht hW => ⟨⟨1, (), rfl, by rw [wo_short, if_pos c_1, wo_short12, if_neg c_2, if_neg c_33, wo_short24, if_neg c_34, if_pos c_49], by rw [ht]; exact hP, va_K.moved hW.alike hK, hD⟩, hS.F ht⟩) hS.2.2 d_Wo_mayBeShort_89
          · refine lv_iload_n hx hb d_Wo_mayBeShort_36 rfl (lv_at hl 0 rfl) ?_
            refine lv_bipush (v := 94) hx hb d_Wo_mayBeShort_37 (by decide) ?_
            refine lv_icmp_lt (tgt := 48) hx hb d_Wo_mayBeShort_39 (by decide) (fun c_50 => ?_) (fun c_50 => ?_)
            · refine lv_iload_n hx hb d_Wo_mayBeShort_48 rfl (lv_at hl 0 rfl) ?_
              refine lv_bipush (v := 33) hx hb d_Wo_mayBeShort_49 (by decide) ?_
              refine lv_icmp_eq (tgt := 84) hx hb d_Wo_mayBeShort_51 (by decide) (fun c_51 => ?_) (fun c_51 => ?_)
              · refine lv_iconst (v := 1) hx hb d_Wo_mayBeShort_84 (by decide) ?_
                refine lv_goto (tgt := 89) hx hb d_Wo_mayBeShort_85 (by decide) ?_
                exact W.zret (v := 1) hx hb hr rfl (fun t ht hW => ⟨⟨1, (), rfl, by rw [wo_short, if_pos c_1, wo_short12, if_neg c_2, if_neg c_33, wo_short24, if_neg c_34, if_neg c_49, wo_short36, if_pos c_50, wo_short48, if_pos c_51], by rw [ht]; exact hP, va_K.moved hW.alike hK, hD⟩, hS.F ht⟩) hS.2.2 d_Wo_mayBeShort_89
              · refine lv_iload_n hx hb d_Wo_mayBeShort_54 rfl (lv_at hl 0 rfl) ?_
                refine lv_bipush (v := 45) hx hb d_Wo_mayBeShort_55 (by decide) ?_
                refine lv_icmp_eq (tgt := 84) hx hb d_Wo_mayBeShort_57 (by decide) (fun c_52 => ?_) (fun c_52 => ?_)
                · refine lv_iconst (v := 1) hx hb d_Wo_mayBeShort_84 (by decide) ?_
                  refine lv_goto (tgt := 89) hx hb d_Wo_mayBeShort_85 (by decide) ?_
                  exact W.zret (v := 1) hx hb hr rfl (fun t ht hW => ⟨⟨1, (), rfl, by rw [wo_short, if_pos c_1, wo_short12, if_neg c_2, if_neg c_33, wo_short24, if_neg c_34, if_neg c_49, wo_short36, if_pos c_50, wo_short48, if_neg c_51, if_pos c_52], by rw [ht]; exact hP, va_K.moved hW.alike hK, hD⟩, hS.F ht⟩) hS.2.2 d_Wo_mayBeShort_89
                · refine lv_iload_n hx hb d_Wo_mayBeShort_60 rfl (lv_at hl 0 rfl) ?_
                  refine lv_bipush (v := 64) hx hb d_Wo_mayBeShort_61 (by decide) ?_
                  refine lv_icmp_eq (tgt := 84) hx hb d_Wo_mayBeShort_63 (by decide) (fun c_53 => ?_) (fun c_53 => ?_)
                  · refine lv_iconst (v := 1) hx hb d_Wo_mayBeShort_84 (by decide) ?_
                    refine lv_goto (tgt := 89) hx hb d_Wo_mayBeShort_85 (by decide) ?_
                    exact W.zret (v := 1) hx hb hr rfl (fun t ht hW => ⟨⟨1, (), rfl, by rw [wo_short, if_pos c_1, wo_short12, if_neg c_2, if_neg c_33, wo_short24, if_neg c_34, if_neg c_49, wo_short36, if_pos c_50, wo_short48, if_neg c_51, if_neg c_52, if_pos c_53], by rw [ht]; exact hP, va_K.moved hW.alike hK, hD⟩, hS.F ht⟩) hS.2.2 d_Wo_mayBeShort_89
                  · refine lv_iload_n hx hb d_Wo_mayBeShort_66 rfl (lv_at hl 0 rfl) ?_
                    refine lv_bipush (v := 123) hx hb d_Wo_mayBeShort_67 (by decide) ?_
                    refine lv_icmp_eq (tgt := 84) hx hb d_Wo_mayBeShort_69 (by decide) (fun c_54 => ?_) (fun c_54 => ?_)
                    · refine lv_iconst (v := 1) hx hb d_Wo_mayBeShort_84 (by decide) ?_
                      refine lv_goto (tgt := 89) hx hb d_Wo_mayBeShort_85 (by decide) ?_
                      exact W.zret (v := 1) hx hb hr rfl (fun t ht hW => ⟨⟨1, (), rfl, by rw [wo_short, if_pos c_1, wo_short12, if_neg c_2, if_neg c_33, wo_short24, if_neg c_34, if_neg c_49, wo_short36, if_pos c_50, wo_short48, if_neg c_51, if_neg c_52, if_neg c_53, if_pos c_54], by rw [ht]; exact hP, va_K.moved hW.alike hK, hD⟩, hS.F ht⟩) hS.2.2 d_Wo_mayBeShort_89
                    · refine lv_iload_n hx hb d_Wo_mayBeShort_72 rfl (lv_at hl 0 rfl) ?_
                      refine lv_bipush (v := 125) hx hb d_Wo_mayBeShort_73 (by decide) ?_
                      refine lv_icmp_eq (tgt := 84) hx hb d_Wo_mayBeShort_75 (by decide) (fun c_55 => ?_) (fun c_55 => ?_)
                      · refine lv_iconst (v := 1) hx hb d_Wo_mayBeShort_84 (by decide) ?_
                        refine lv_goto (tgt := 89) hx hb d_Wo_mayBeShort_85 (by decide) ?_
                        exact W.zret (v := 1) hx hb hr rfl (fun t ht hW => ⟨⟨1, (), rfl, by rw [wo_short, if_pos c_1, wo_short12, if_neg c_2, if_neg c_33, wo_short24, if_neg c_34, if_neg c_49, wo_short36, if_pos c_50, wo_short48, if_neg c_51, if_neg c_52, if_neg c_53, if_neg c_54, if_pos c_55], by rw [ht]; exact hP, va_K.moved hW.alike hK, hD⟩, hS.F ht⟩) hS.2.2 d_Wo_mayBeShort_89
                      · refine lv_iload_n hx hb d_Wo_mayBeShort_78 rfl (lv_at hl 0 rfl) ?_
                        refine lv_bipush (v := 126) hx hb d_Wo_mayBeShort_79 (by decide) ?_
                        refine lv_icmp_ne (tgt := 88) hx hb d_Wo_mayBeShort_81 (by decide) (fun c_56 => ?_) (fun c_56 => ?_)
                        · refine lv_iconst (v := 0) hx hb d_Wo_mayBeShort_88 (by decide) ?_
                          exact W.zret (v := 0) hx hb hr rfl (fun t ht hW => ⟨⟨0, (), rfl, by rw [wo_short, if_pos c_1, wo_short12, if_neg c_2, if_neg c_33, wo_short24, if_neg c_34, if_neg c_49, wo_short36, if_pos c_50, wo_short48, if_neg c_51, if_neg c_52, if_neg c_53, if_neg c_54, if_neg c_55, if_neg c_56], by rw [ht]; exact hP, va_K.moved hW.alike hK, hD⟩, hS.F ht⟩) hS.2.2 d_Wo_mayBeShort_89
                        · refine lv_iconst (v := 1) hx hb d_Wo_mayBeShort_84 (by decide) ?_
                          refine lv_goto (tgt := 89) hx hb d_Wo_mayBeShort_85 (by decide) ?_
                          exact W.zret (v := 1) hx hb hr rfl (fun t ht hW => ⟨⟨1, (), rfl, by rw [wo_short, if_pos c_1, wo_short12, if_neg c_2, if_neg c_33, wo_short24, if_neg c_34, if_neg c_49, wo_short36, if_pos c_50, wo_short48, if_neg c_51, if_neg c_52, if_neg c_53, if_neg c_54, if_neg c_55, if_pos c_56], by rw [ht]; exact hP, va_K.moved hW.alike hK, hD⟩, hS.F ht⟩) hS.2.2 d_Wo_mayBeShort_89
            · refine lv_iload_n hx hb d_Wo_mayBeShort_42 rfl (lv_at hl 0 rfl) ?_
              refine lv_bipush (v := 96) hx hb d_Wo_mayBeShort_43 (by decide) ?_
              refine lv_icmp_le (tgt := 84) hx hb d_Wo_mayBeShort_45 (by decide) (fun c_57 => ?_) (fun c_57 => ?_)
              · refine lv_iconst (v := 1) hx hb d_Wo_mayBeShort_84 (by decide) ?_
                refine lv_goto (tgt := 89) hx hb d_Wo_mayBeShort_85 (by decide) ?_
                exact W.zret (v := 1) hx hb hr rfl (fun t ht hW => ⟨⟨1, (), rfl, by rw [wo_short, if_pos c_1, wo_short12, if_neg c_2, if_neg c_33, wo_short24, if_neg c_34, if_neg c_49, wo_short36, if_neg c_50, if_pos c_57], by rw [ht]; exact hP, va_K.moved hW.alike hK, hD⟩, hS.F ht⟩) hS.2.2 d_Wo_mayBeShort_89
              · refine lv_iload_n hx hb d_Wo_mayBeShort_48 rfl (lv_at hl 0 rfl) ?_
                refine lv_bipush (v := 33) hx hb d_Wo_mayBeShort_49 (by decide) ?_
                refine lv_icmp_eq (tgt := 84) hx hb d_Wo_mayBeShort_51 (by decide) (fun c_58 => ?_) (fun c_58 => ?_)
                · refine lv_iconst (v := 1) hx hb d_Wo_mayBeShort_84 (by decide) ?_
                  refine lv_goto (tgt := 89) hx hb d_Wo_mayBeShort_85 (by decide) ?_
                  exact W.zret (v := 1) hx hb hr rfl (fun t ht hW => ⟨⟨1, (), rfl, by rw [wo_short, if_pos c_1, wo_short12, if_neg c_2, if_neg c_33, wo_short24, if_neg c_34, if_neg c_49, wo_short36, if_neg c_50, if_neg c_57, wo_short48, if_pos c_58], by rw [ht]; exact hP, va_K.moved hW.alike hK, hD⟩, hS.F ht⟩) hS.2.2 d_Wo_mayBeShort_89
                · refine lv_iload_n hx hb d_Wo_mayBeShort_54 rfl (lv_at hl 0 rfl) ?_
                  refine lv_bipush (v := 45) hx hb d_Wo_mayBeShort_55 (by decide) ?_
                  refine lv_icmp_eq (tgt := 84) hx hb d_Wo_mayBeShort_57 (by decide) (fun c_59 => ?_) (fun c_59 => ?_)
                  · refine lv_iconst (v := 1) hx hb d_Wo_mayBeShort_84 (by decide) ?_
                    refine lv_goto (tgt := 89) hx hb d_Wo_mayBeShort_85 (by decide) ?_
                    exact W.zret (v := 1) hx hb hr rfl (fun t ht hW => ⟨⟨1, (), rfl, by rw [wo_short, if_pos c_1, wo_short12, if_neg c_2, if_neg c_33, wo_short24, if_neg c_34, if_neg c_49, wo_short36, if_neg c_50, if_neg c_57, wo_short48, if_neg c_58, if_pos c_59], by rw [ht]; exact hP, va_K.moved hW.alike hK, hD⟩, hS.F ht⟩) hS.2.2 d_Wo_mayBeShort_89
                  · refine lv_iload_n hx hb d_Wo_mayBeShort_60 rfl (lv_at hl 0 rfl) ?_
                    refine lv_bipush (v := 64) hx hb d_Wo_mayBeShort_61 (by decide) ?_
                    refine lv_icmp_eq (tgt := 84) hx hb d_Wo_mayBeShort_63 (by decide) (fun c_60 => ?_) (fun c_60 => ?_)
                    · refine lv_iconst (v := 1) hx hb d_Wo_mayBeShort_84 (by decide) ?_
                      refine lv_goto (tgt := 89) hx hb d_Wo_mayBeShort_85 (by decide) ?_
                      exact W.zret (v := 1) hx hb hr rfl (fun t ht hW => ⟨⟨1, (), rfl, by rw [wo_short, if_pos c_1, wo_short12, if_neg c_2, if_neg c_33, wo_short24, if_neg c_34, if_neg c_49, wo_short36, if_neg c_50, if_neg c_57, wo_short48, if_neg c_58, if_neg c_59, if_pos c_60], by rw [ht]; exact hP, va_K.moved hW.alike hK, hD⟩, hS.F ht⟩) hS.2.2 d_Wo_mayBeShort_89
                    · refine lv_iload_n hx hb d_Wo_mayBeShort_66 rfl (lv_at hl 0 rfl) ?_
                      refine lv_bipush (v := 123) hx hb d_Wo_mayBeShort_67 (by decide) ?_
                      refine lv_icmp_eq (tgt := 84) hx hb d_Wo_mayBeShort_69 (by decide) (fun c_61 => ?_) (fun c_61 => ?_)
                      · refine lv_iconst (v := 1) hx hb d_Wo_mayBeShort_84 (by decide) ?_
                        refine lv_goto (tgt := 89) hx hb d_Wo_mayBeShort_85 (by decide) ?_
                        exact W.zret (v := 1) hx hb hr rfl (fun t ht hW => ⟨⟨1, (), rfl, by rw [wo_short, if_pos c_1, wo_short12, if_neg c_2, if_neg c_33, wo_short24, if_neg c_34, if_neg c_49, wo_short36, if_neg c_50, if_neg c_57, wo_short48, if_neg c_58, if_neg c_59, if_neg c_60, if_pos c_61], by rw [ht]; exact hP, va_K.moved hW.alike hK, hD⟩, hS.F ht⟩) hS.2.2 d_Wo_mayBeShort_89
                      · refine lv_iload_n hx hb d_Wo_mayBeShort_72 rfl (lv_at hl 0 rfl) ?_
                        refine lv_bipush (v := 125) hx hb d_Wo_mayBeShort_73 (by decide) ?_
                        refine lv_icmp_eq (tgt := 84) hx hb d_Wo_mayBeShort_75 (by decide) (fun c_62 => ?_) (fun c_62 => ?_)
                        · refine lv_iconst (v := 1) hx hb d_Wo_mayBeShort_84 (by decide) ?_
                          refine lv_goto (tgt := 89) hx hb d_Wo_mayBeShort_85 (by decide) ?_
                          exact W.zret (v := 1) hx hb hr rfl (fun t ht hW => ⟨⟨1, (), rfl, by rw [wo_short, if_pos c_1, wo_short12, if_neg c_2, if_neg c_33, wo_short24, if_neg c_34, if_neg c_49, wo_short36, if_neg c_50, if_neg c_57, wo_short48, if_neg c_58, if_neg c_59, if_neg c_60, if_neg c_61, if_pos c_62], by rw [ht]; exact hP, va_K.moved hW.alike hK, hD⟩, hS.F ht⟩) hS.2.2 d_Wo_mayBeShort_89
                        · refine lv_iload_n hx hb d_Wo_mayBeShort_78 rfl (lv_at hl 0 rfl) ?_
                          refine lv_bipush (v := 126) hx hb d_Wo_mayBeShort_79 (by decide) ?_
                          refine lv_icmp_ne (tgt := 88) hx hb d_Wo_mayBeShort_81 (by decide) (fun c_63 => ?_) (fun c_63 => ?_)
                          · refine lv_iconst (v := 0) hx hb d_Wo_mayBeShort_88 (by decide) ?_
                            exact W.zret (v := 0) hx hb hr rfl (fun t ht hW => ⟨⟨0, (), rfl, by rw [wo_short, if_pos c_1, wo_short12, if_neg c_2, if_neg c_33, wo_short24, if_neg c_34, if_neg c_49, wo_short36, if_neg c_50, if_neg c_57, wo_short48, if_neg c_58, if_neg c_59, if_neg c_60, if_neg c_61, if_neg c_62, if_neg c_63], by rw [ht]; exact hP, va_K.moved hW.alike hK, hD⟩, hS.F ht⟩) hS.2.2 d_Wo_mayBeShort_89
                          · refine lv_iconst (v := 1) hx hb d_Wo_mayBeShort_84 (by decide) ?_
                            refine lv_goto (tgt := 89) hx hb d_Wo_mayBeShort_85 (by decide) ?_
                            exact W.zret (v := 1) hx hb hr rfl (fun t ht hW => ⟨⟨1, (), rfl, by rw [wo_short, if_pos c_1, wo_short12, if_neg c_2, if_neg c_33, wo_short24, if_neg c_34, if_neg c_49, wo_short36, if_neg c_50, if_neg c_57, wo_short48, if_neg c_58, if_neg c_59, if_neg c_60, if_neg c_61, if_neg c_62, if_pos c_63], by rw [ht]; exact hP, va_K.moved hW.alike hK, hD⟩, hS.F ht⟩) hS.2.2 d_Wo_mayBeShort_89
  · refine lv_iload_n hx hb d_Wo_mayBeShort_6 rfl (lv_at hl 0 rfl) ?_
    refine lv_bipush (v := 90) hx hb d_Wo_mayBeShort_7 (by decide) ?_
    refine lv_icmp_le (tgt := 84) hx hb d_Wo_mayBeShort_9 (by decide) (fun c_64 => ?_) (fun c_64 => ?_)
    · refine lv_iconst (v := 1) hx hb d_Wo_mayBeShort_84 (by decide) ?_
      refine lv_goto (tgt := 89) hx hb d_Wo_mayBeShort_85 (by decide) ?_
      exact W.zret (v := 1) hx hb hr rfl (fun t ht hW => ⟨⟨1, (), rfl, by rw [wo_short, if_neg c_1, if_pos c_64], by rw [ht]; exact hP, va_K.moved hW.alike hK, hD⟩, hS.F ht⟩) hS.2.2 d_Wo_mayBeShort_89
    · refine lv_iload_n hx hb d_Wo_mayBeShort_12 rfl (lv_at hl 0 rfl) ?_
      refine lv_bipush (v := 48) hx hb d_Wo_mayBeShort_13 (by decide) ?_
      refine lv_icmp_lt (tgt := 24) hx hb d_Wo_mayBeShort_15 (by decide) (fun c_65 => ?_) (fun c_65 => ?_)
      · refine lv_iload_n hx hb d_Wo_mayBeShort_24 rfl (lv_at hl 0 rfl) ?_
        refine lv_bipush (v := 35) hx hb d_Wo_mayBeShort_25 (by decide) ?_
        refine lv_icmp_lt (tgt := 36) hx hb d_Wo_mayBeShort_27 (by decide) (fun c_66 => ?_) (fun c_66 => ?_)
        · refine lv_iload_n hx hb d_Wo_mayBeShort_36 rfl (lv_at hl 0 rfl) ?_
          refine lv_bipush (v := 94) hx hb d_Wo_mayBeShort_37 (by decide) ?_
          refine lv_icmp_lt (tgt := 48) hx hb d_Wo_mayBeShort_39 (by decide) (fun c_67 => ?_) (fun c_67 => ?_)
          · refine lv_iload_n hx hb d_Wo_mayBeShort_48 rfl (lv_at hl 0 rfl) ?_
            refine lv_bipush (v := 33) hx hb d_Wo_mayBeShort_49 (by decide) ?_
            refine lv_icmp_eq (tgt := 84) hx hb d_Wo_mayBeShort_51 (by decide) (fun c_68 => ?_) (fun c_68 => ?_)
            · refine lv_iconst (v := 1) hx hb d_Wo_mayBeShort_84 (by decide) ?_
              refine lv_goto (tgt := 89) hx hb d_Wo_mayBeShort_85 (by decide) ?_
              exact W.zret (v := 1) hx hb hr rfl (fun t ht hW => ⟨⟨1, (), rfl, by rw [wo_short, if_neg c_1, if_neg c_64, wo_short12, if_pos c_65, wo_short24, if_pos c_66, wo_short36, if_pos c_67, wo_short48, if_pos c_68], by rw [ht]; exact hP, va_K.moved hW.alike hK, hD⟩, hS.F ht⟩) hS.2.2 d_Wo_mayBeShort_89
            · refine lv_iload_n hx hb d_Wo_mayBeShort_54 rfl (lv_at hl 0 rfl) ?_
              refine lv_bipush (v := 45) hx hb d_Wo_mayBeShort_55 (by decide) ?_
              refine lv_icmp_eq (tgt := 84) hx hb d_Wo_mayBeShort_57 (by decide) (fun c_69 => ?_) (fun c_69 => ?_)
              · refine lv_iconst (v := 1) hx hb d_Wo_mayBeShort_84 (by decide) ?_
                refine lv_goto (tgt := 89) hx hb d_Wo_mayBeShort_85 (by decide) ?_
                exact W.zret (v := 1) hx hb hr rfl (fun t ht hW => ⟨⟨1, (), rfl, by rw [wo_short, if_neg c_1, if_neg c_64, wo_short12, if_pos c_65, wo_short24, if_pos c_66, wo_short36, if_pos c_67, wo_short48, if_neg c_68, if_pos c_69], by rw [ht]; exact hP, va_K.moved hW.alike hK, hD⟩, hS.F ht⟩) hS.2.2 d_Wo_mayBeShort_89
              · refine lv_iload_n hx hb d_Wo_mayBeShort_60 rfl (lv_at hl 0 rfl) ?_
                refine lv_bipush (v := 64) hx hb d_Wo_mayBeShort_61 (by decide) ?_
                refine lv_icmp_eq (tgt := 84) hx hb d_Wo_mayBeShort_63 (by decide) (fun c_70 => ?_) (fun c_70 => ?_)
                · refine lv_iconst (v := 1) hx hb d_Wo_mayBeShort_84 (by decide) ?_
                  refine lv_goto (tgt := 89) hx hb d_Wo_mayBeShort_85 (by decide) ?_
                  exact W.zret (v := 1) hx hb hr rfl (fun t ht hW => ⟨⟨1, (), rfl, by rw [wo_short, if_neg c_1, if_neg c_64, wo_short12, if_pos c_65, wo_short24, if_pos c_66, wo_short36, if_pos c_67, wo_short48, if_neg c_68, if_neg c_69, if_pos c_70], by rw [ht]; exact hP, va_K.moved hW.alike hK, hD⟩, hS.F ht⟩) hS.2.2 d_Wo_mayBeShort_89
                · refine lv_iload_n hx hb d_Wo_mayBeShort_66 rfl (lv_at hl 0 rfl) ?_
                  refine lv_bipush (v := 123) hx hb d_Wo_mayBeShort_67 (by decide) ?_
                  refine lv_icmp_eq (tgt := 84) hx hb d_Wo_mayBeShort_69 (by decide) (fun c_71 => ?_) (fun c_71 => ?_)
                  · refine lv_iconst (v := 1) hx hb d_Wo_mayBeShort_84 (by decide) ?_
                    refine lv_goto (tgt := 89) hx hb d_Wo_mayBeShort_85 (by decide) ?_
                    exact W.zret (v := 1) hx hb hr rfl (fun t ht hW => ⟨⟨1, (), rfl, by rw [wo_short, if_neg c_1, if_neg c_64, wo_short12, if_pos c_65, wo_short24, if_pos c_66, wo_short36, if_pos c_67, wo_short48, if_neg c_68, if_neg c_69, if_neg c_70, if_pos c_71], by rw [ht]; exact hP, va_K.moved hW.alike hK, hD⟩, hS.F ht⟩) hS.2.2 d_Wo_mayBeShort_89
                  · refine lv_iload_n hx hb d_Wo_mayBeShort_72 rfl (lv_at hl 0 rfl) ?_
                    refine lv_bipush (v := 125) hx hb d_Wo_mayBeShort_73 (by decide) ?_
                    refine lv_icmp_eq (tgt := 84) hx hb d_Wo_mayBeShort_75 (by decide) (fun c_72 => ?_) (fun c_72 => ?_)
                    · refine lv_iconst (v := 1) hx hb d_Wo_mayBeShort_84 (by decide) ?_
                      refine lv_goto (tgt := 89) hx hb d_Wo_mayBeShort_85 (by decide) ?_
                      exact W.zret (v := 1) hx hb hr rfl (fun t ht hW => ⟨⟨1, (), rfl, by rw [wo_short, if_neg c_1, if_neg c_64, wo_short12, if_pos c_65, wo_short24, if_pos c_66, wo_short36, if_pos c_67, wo_short48, if_neg c_68, if_neg c_69, if_neg c_70, if_neg c_71, if_pos c_72], by rw [ht]; exact hP, va_K.moved hW.alike hK, hD⟩, hS.F ht⟩) hS.2.2 d_Wo_mayBeShort_89
                    · refine lv_iload_n hx hb d_Wo_mayBeShort_78 rfl (lv_at hl 0 rfl) ?_
                      refine lv_bipush (v := 126) hx hb d_Wo_mayBeShort_79 (by decide) ?_
                      refine lv_icmp_ne (tgt := 88) hx hb d_Wo_mayBeShort_81 (by decide) (fun c_73 => ?_) (fun c_73 => ?_)
                      · refine lv_iconst (v := 0) hx hb d_Wo_mayBeShort_88 (by decide) ?_
                        exact W.zret (v := 0) hx hb hr rfl (fun t ht hW => ⟨⟨0, (), rfl, by rw [wo_short, if_neg c_1, if_neg c_64, wo_short12, if_pos c_65, wo_short24, if_pos c_66, wo_short36, if_pos c_67, wo_short48, if_neg c_68, if_neg c_69, if_neg c_70, if_neg c_71, if_neg c_72, if_neg c_73], by rw [ht]; exact hP, va_K.moved hW.alike hK, hD⟩, hS.F ht⟩) hS.2.2 d_Wo_mayBeShort_89
                      · refine lv_iconst (v := 1) hx hb d_Wo_mayBeShort_84 (by decide) ?_
                        refine lv_goto (tgt := 89) hx hb d_Wo_mayBeShort_85 (by decide) ?_
                        exact W.zret (v := 1) hx hb hr rfl (fun t ht hW => ⟨⟨1, (), rfl, by rw [wo_short, if_neg c_1, if_neg c_64, wo_short12, if_pos c_65, wo_short24, if_pos c_66, wo_short36, if_pos c_67, wo_short48, if_neg c_68, if_neg c_69, if_neg c_70, if_neg c_71, if_neg c_72, if_pos c_73], by rw [ht]; exact hP, va_K.moved hW.alike hK, hD⟩, hS.F ht⟩) hS.2.2 d_Wo_mayBeShort_89
          · refine lv_iload_n hx hb d_Wo_mayBeShort_42 rfl (lv_at hl 0 rfl) ?_
            refine lv_bipush (v := 96) hx hb d_Wo_mayBeShort_43 (by decide) ?_
            refine lv_icmp_le (tgt := 84) hx hb d_Wo_mayBeShort_45 (by decide) (fun c_74 => ?_) (fun c_74 => ?_)
            · refine lv_iconst (v := 1) hx hb d_Wo_mayBeShort_84 (by decide) ?_
              refine lv_goto (tgt := 89) hx hb d_Wo_mayBeShort_85 (by decide) ?_
              exact W.zret (v := 1) hx hb hr rfl (fun t ht hW => ⟨⟨1, (), rfl, by rw [wo_short, if_neg c_1, if_neg c_64, wo_short12, if_pos c_65, wo_short24, if_pos c_66, wo_short36, if_neg c_67, if_pos c_74], by rw [ht]; exact hP, va_K.moved hW.alike hK, hD⟩, hS.F ht⟩) hS.2.2 d_Wo_mayBeShort_89
            · refine lv_iload_n hx hb d_Wo_mayBeShort_48 rfl (lv_at hl 0 rfl) ?_
              refine lv_bipush (v := 33) hx hb d_Wo_mayBeShort_49 (by decide) ?_
              refine lv_icmp_eq (tgt := 84) hx hb d_Wo_mayBeShort_51 (by decide) (fun c_75 => ?_) (fun c_75 => ?_)
              · refine lv_iconst (v := 1) hx hb d_Wo_mayBeShort_84 (by decide) ?_
                refine lv_goto (tgt := 89) hx hb d_Wo_mayBeShort_85 (by decide) ?_
                exact W.zret (v := 1) hx hb hr rfl (fun t ht hW => ⟨⟨1, (), rfl, by rw [wo_short, if_neg c_1, if_neg c_64, wo_short12, if_pos c_65, wo_short24, if_pos c_66, wo_short36, if_neg c_67, if_neg c_74, wo_short48, if_pos c_75], by rw [ht]; exact hP, va_K.moved hW.alike hK, hD⟩, hS.F ht⟩) hS.2.2 d_Wo_mayBeShort_89
              · refine lv_iload_n hx hb d_Wo_mayBeShort_54 rfl (lv_at hl 0 rfl) ?_
                refine lv_bipush (v := 45) hx hb d_Wo_mayBeShort_55 (by decide) ?_
                refine lv_icmp_eq (tgt := 84) hx hb d_Wo_mayBeShort_57 (by decide) (fun c_76 => ?_) (fun c_76 => ?_)
                · refine lv_iconst (v := 1) hx hb d_Wo_mayBeShort_84 (by decide) ?_
                  refine lv_goto (tgt := 89) hx hb d_Wo_mayBeShort_85 (by decide) ?_
                  exact W.zret (v := 1) hx hb hr rfl (fun t ht hW => ⟨⟨1, (), rfl, by rw [wo_short, if_neg c_1, if_neg c_64, wo_short12, if_pos c_65, wo_short24, if_pos c_66, wo_short36, if_neg c_67, if_neg c_74, wo_short48, if_neg c_75, if_pos c_76], by rw [ht]; exact hP, va_K.moved hW.alike hK, hD⟩, hS.F ht⟩) hS.2.2 d_Wo_mayBeShort_89
                · refine lv_iload_n hx hb d_Wo_mayBeShort_60 rfl (lv_at hl 0 rfl) ?_
                  refine lv_bipush (v := 64) hx hb d_Wo_mayBeShort_61 (by decide) ?_
                  refine lv_icmp_eq (tgt := 84) hx hb d_Wo_mayBeShort_63 (by decide) (fun c_77 => ?_) (fun c_77 => ?_)
                  · refine lv_iconst (v := 1) hx hb d_Wo_mayBeShort_84 (by decide) ?_
                    refine lv_goto (tgt := 89) hx hb d_Wo_mayBeShort_85 (by decide) ?_
                    exact W.zret (v := 1) hx hb hr rfl (fun t ht hW => ⟨⟨1, (), rfl, by rw [wo_short, if_neg c_1, if_neg c_64, wo_short12, if_pos c_65, wo_short24, if_pos c_66, wo_short36, if_neg c_67, if_neg c_74, wo_short48, if_neg c_75, if_neg c_76, if_pos c_77], by rw [ht]; exact hP, va_K.moved hW.alike hK, hD⟩, hS.F ht⟩) hS.2.2 d_Wo_mayBeShort_89
                  · refine lv_iload_n hx hb d_Wo_mayBeShort_66 rfl (lv_at hl 0 rfl) ?_
                    refine lv_bipush (v := 123) hx hb d_Wo_mayBeShort_67 (by decide) ?_
                    refine lv_icmp_eq (tgt := 84) hx hb d_Wo_mayBeShort_69 (by decide) (fun c_78 => ?_) (fun c_78 => ?_)
                    · refine lv_iconst (v := 1) hx hb d_Wo_mayBeShort_84 (by decide) ?_
                      refine lv_goto (tgt := 89) hx hb d_Wo_mayBeShort_85 (by decide) ?_
                      exact W.zret (v := 1) hx hb hr rfl (fun t ht hW => ⟨⟨1, (), rfl, by rw [wo_short, if_neg c_1, if_neg c_64, wo_short12, if_pos c_65, wo_short24, if_pos c_66, wo_short36, if_neg c_67, if_neg c_74, wo_short48, if_neg c_75, if_neg c_76, if_neg c_77, if_pos c_78], by rw [ht]; exact hP, va_K.moved hW.alike hK, hD⟩, hS.F ht⟩) hS.2.2 d_Wo_mayBeShort_89
                    · refine lv_iload_n hx hb d_Wo_mayBeShort_72 rfl (lv_at hl 0 rfl) ?_
                      refine lv_bipush (v := 125) hx hb d_Wo_mayBeShort_73 (by decide) ?_
                      refine lv_icmp_eq (tgt := 84) hx hb d_Wo_mayBeShort_75 (by decide) (fun c_79 => ?_) (fun c_79 => ?_)
                      · refine lv_iconst (v := 1) hx hb d_Wo_mayBeShort_84 (by decide) ?_
                        refine lv_goto (tgt := 89) hx hb d_Wo_mayBeShort_85 (by decide) ?_
                        exact W.zret (v := 1) hx hb hr rfl (fun t ht hW => ⟨⟨1, (), rfl, by rw [wo_short, if_neg c_1, if_neg c_64, wo_short12, if_pos c_65, wo_short24, if_pos c_66, wo_short36, if_neg c_67, if_neg c_74, wo_short48, if_neg c_75, if_neg c_76, if_neg c_77, if_neg c_78, if_pos c_79], by rw [ht]; exact hP, va_K.moved hW.alike hK, hD⟩, hS.F ht⟩) hS.2.2 d_Wo_mayBeShort_89
                      · refine lv_iload_n hx hb d_Wo_mayBeShort_78 rfl (lv_at hl 0 rfl) ?_
                        refine lv_bipush (v := 126) hx hb d_Wo_mayBeShort_79 (by decide) ?_
                        refine lv_icmp_ne (tgt := 88) hx hb d_Wo_mayBeShort_81 (by decide) (fun c_80 => ?_) (fun c_80 => ?_)
                        · refine lv_iconst (v := 0) hx hb d_Wo_mayBeShort_88 (by decide) ?_
                          exact W.zret (v := 0) hx hb hr rfl (fun t ht hW => ⟨⟨0, (), rfl, by rw [wo_short, if_neg c_1, if_neg c_64, wo_short12, if_pos c_65, wo_short24, if_pos c_66, wo_short36, if_neg c_67, if_neg c_74, wo_short48, if_neg c_75, if_neg c_76, if_neg c_77, if_neg c_78, if_neg c_79, if_neg c_80], by rw [ht]; exact hP, va_K.moved hW.alike hK, hD⟩, hS.F ht⟩) hS.2.2 d_Wo_mayBeShort_89
                        · refine lv_iconst (v := 1) hx hb d_Wo_mayBeShort_84 (by decide) ?_
                          refine lv_goto (tgt := 89) hx hb d_Wo_mayBeShort_85 (by decide) ?_
                          exact W.zret (v := 1) hx hb hr rfl (fun t ht hW => ⟨⟨1, (), rfl, by rw [wo_short, if_neg c_1, if_neg c_64, wo_short12, if_pos c_65, wo_short24, if_pos c_66, wo_short36, if_neg c_67, if_neg c_74, wo_short48, if_neg c_75, if_neg c_76, if_neg c_77, if_neg c_78, if_neg c_79, if_pos c_80], by rw [ht]; exact hP, va_K.moved hW.alike hK, hD⟩, hS.F ht⟩) hS.2.2 d_Wo_mayBeShort_89
        · refine lv_iload_n hx hb d_Wo_mayBeShort_30 rfl (lv_at hl 0 rfl) ?_
          refine lv_bipush (v := 41) hx hb d_Wo_mayBeShort_31 (by decide) ?_
          refine lv_icmp_le (tgt := 84) hx hb d_Wo_mayBeShort_33 (by decide) (fun c_81 => ?_) (fun c_81 => ?_)
          · refine lv_iconst (v := 1) hx hb d_Wo_mayBeShort_84 (by decide) ?_
            refine lv_goto (tgt := 89) hx hb d_Wo_mayBeShort_85 (by decide) ?_
            exact W.zret (v := 1) hx hb hr rfl (fun t ht hW => ⟨⟨1, (), rfl, by rw [wo_short, if_neg c_1, if_neg c_64, wo_short12, if_pos c_65, wo_short24, if_neg c_66, if_pos c_81], by rw [ht]; exact hP, va_K.moved hW.alike hK, hD⟩, hS.F ht⟩) hS.2.2 d_Wo_mayBeShort_89
          · refine lv_iload_n hx hb d_Wo_mayBeShort_36 rfl (lv_at hl 0 rfl) ?_
            refine lv_bipush (v := 94) hx hb d_Wo_mayBeShort_37 (by decide) ?_
            refine lv_icmp_lt (tgt := 48) hx hb d_Wo_mayBeShort_39 (by decide) (fun c_82 => ?_) (fun c_82 => ?_)
            · refine lv_iload_n hx hb d_Wo_mayBeShort_48 rfl (lv_at hl 0 rfl) ?_
              refine lv_bipush (v := 33) hx hb d_Wo_mayBeShort_49 (by decide) ?_
              refine lv_icmp_eq (tgt := 84) hx hb d_Wo_mayBeShort_51 (by decide) (fun c_83 => ?_) (fun c_83 => ?_)
              · refine lv_iconst (v := 1) hx hb d_Wo_mayBeShort_84 (by decide) ?_
                refine lv_goto (tgt := 89) hx hb d_Wo_mayBeShort_85 (by decide) ?_
                exact W.zret (v := 1) hx hb hr rfl (fun t ht hW => ⟨⟨1, (), rfl, by rw [wo_short, if_neg c_1, if_neg c_64, wo_short12, if_pos c_65, wo_short24, if_neg c_66, if_neg c_81, wo_short36, if_pos c_82, wo_short48, if_pos c_83], by rw [ht]; exact hP, va_K.moved hW.alike hK, hD⟩, hS.F ht⟩) hS.2.2 d_Wo_mayBeShort_89
              · refine lv_iload_n hx hb d_Wo_mayBeShort_54 rfl (lv_at hl 0 rfl) ?_
                refine lv_bipush (v := 45) hx hb d_Wo_mayBeShort_55 (by decide) ?_
                refine lv_icmp_eq (tgt := 84) hx hb d_Wo_mayBeShort_57 (by decide) (fun c_84 => ?_) (fun c_84 => ?_)
                · refine lv_iconst (v := 1) hx hb d_Wo_mayBeShort_84 (by decide) ?_
                  refine lv_goto (tgt := 89) hx hb d_Wo_mayBeShort_85 (by decide) ?_
                  exact W.zret (v := 1) hx hb hr rfl (fun t ht hW => ⟨⟨1, (), rfl, by rw [wo_short, if_neg c_1, if_neg c_64, wo_short12, if_pos c_65, wo_short24, if_neg c_66, if_neg c_81, wo_short36, if_pos c_82, wo_short48, if_neg c_83, if_pos c_84], by rw [ht]; exact hP, va_K.moved hW.alike hK, hD⟩, hS.F ht⟩) hS.2.2 d_Wo_mayBeShort_89
                · refine lv_iload_n hx hb d_Wo_mayBeShort_60 rfl (lv_at hl 0 rfl) ?_
                  refine lv_bipush (v := 64) hx hb d_Wo_mayBeShort_61 (by decide) ?_
                  refine lv_icmp_eq (tgt := 84) hx hb d_Wo_mayBeShort_63 (by decide) (fun c_85 => ?_) (fun c_85 => ?_)
                  · refine lv_iconst (v := 1) hx hb d_Wo_mayBeShort_84 (by decide) ?_
                    refine lv_goto (tgt := 89) hx hb d_Wo_mayBeShort_85 (by decide) ?_
                    exact W.zret (v := 1) hx hb hr rfl (fun t ht hW => ⟨⟨1, (), rfl, by rw [wo_short, if_neg c_1, if_neg c_64, wo_short12, if_pos c_65, wo_short24, if_neg c_66, if_neg c_81, wo_short36, if_pos c_82, wo_short48, if_neg c_83, if_neg c_84, if_pos c_85], by rw [ht]; exact hP, va_K.moved hW.alike hK, hD⟩, hS.F ht⟩) hS.2.2 d_Wo_mayBeShort_89
                  · refine lv_iload_n hx hb d_Wo_mayBeShort_66 rfl (lv_at hl 0 rfl) ?_
                    refine lv_bipush (v := 123) hx hb d_Wo_mayBeShort_67 (by decide) ?_
                    refine lv_icmp_eq (tgt := 84) hx hb d_Wo_mayBeShort_69 (by decide) (fun c_86 => ?_) (fun c_86 => ?_)
                    · refine lv_iconst (v := 1) hx hb d_Wo_mayBeShort_84 (by decide) ?_
                      refine lv_goto (tgt := 89) hx hb d_Wo_mayBeShort_85 (by decide) ?_
                      exact W.zret (v := 1) hx hb hr rfl (fun t ht hW => ⟨⟨1, (), rfl, by rw [wo_short, if_neg c_1, if_neg c_64, wo_short12, if_pos c_65, wo_short24, if_neg c_66, if_neg c_81, wo_short36, if_pos c_82, wo_short48, if_neg c_83, if_neg c_84, if_neg c_85, if_pos c_86], by rw [ht]; exact hP, va_K.moved hW.alike hK, hD⟩, hS.F ht⟩) hS.2.2 d_Wo_mayBeShort_89
                    · refine lv_iload_n hx hb d_Wo_mayBeShort_72 rfl (lv_at hl 0 rfl) ?_
                      refine lv_bipush (v := 125) hx hb d_Wo_mayBeShort_73 (by decide) ?_
                      refine lv_icmp_eq (tgt := 84) hx hb d_Wo_mayBeShort_75 (by decide) (fun c_87 => ?_) (fun c_87 => ?_)
                      · refine lv_iconst (v := 1) hx hb d_Wo_mayBeShort_84 (by decide) ?_
                        refine lv_goto (tgt := 89) hx hb d_Wo_mayBeShort_85 (by decide) ?_
                        exact W.zret (v := 1) hx hb hr rfl (fun t ht hW => ⟨⟨1, (), rfl, by rw [wo_short, if_neg c_1, if_neg c_64, wo_short12, if_pos c_65, wo_short24, if_neg c_66, if_neg c_81, wo_short36, if_pos c_82, wo_short48, if_neg c_83, if_neg c_84, if_neg c_85, if_neg c_86, if_pos c_87], by rw [ht]; exact hP, va_K.moved hW.alike hK, hD⟩, hS.F ht⟩) hS.2.2 d_Wo_mayBeShort_89
                      · refine lv_iload_n hx hb d_Wo_mayBeShort_78 rfl (lv_at hl 0 rfl) ?_
                        refine lv_bipush (v := 126) hx hb d_Wo_mayBeShort_79 (by decide) ?_
                        refine lv_icmp_ne (tgt := 88) hx hb d_Wo_mayBeShort_81 (by decide) (fun c_88 => ?_) (fun c_88 => ?_)
                        · refine lv_iconst (v := 0) hx hb d_Wo_mayBeShort_88 (by decide) ?_
                          exact W.zret (v := 0) hx hb hr rfl (fun t ht hW => ⟨⟨0, (), rfl, by rw [wo_short, if_neg c_1, if_neg c_64, wo_short12, if_pos c_65, wo_short24, if_neg c_66, if_neg c_81, wo_short36, if_pos c_82, wo_short48, if_neg c_83, if_neg c_84, if_neg c_85, if_neg c_86, if_neg c_87, if_neg c_88], by rw [ht]; exact hP, va_K.moved hW.alike hK, hD⟩, hS.F ht⟩) hS.2.2 d_Wo_mayBeShort_89
                        · refine lv_iconst (v := 1) hx hb d_Wo_mayBeShort_84 (by decide) ?_
                          refine lv_goto (tgt := 89) hx hb d_Wo_mayBeShort_85 (by decide) ?_
                          exact W.zret (v := 1) hx hb hr rfl (fun t ht hW => ⟨⟨1, (), rfl, by rw [wo_short, if_neg c_1, if_neg c_64, wo_short12, if_pos c_65, wo_short24, if_neg c_66, if_neg c_81, wo_short36, if_pos c_82, wo_short48, if_neg c_83, if_neg c_84, if_neg c_85, if_neg c_86, if_neg c_87, if_pos c_88], by rw [ht]; exact hP, va_K.moved hW.alike hK, hD⟩, hS.F ht⟩) hS.2.2 d_Wo_mayBeShort_89
            · refine lv_iload_n hx hb d_Wo_mayBeShort_42 rfl (lv_at hl 0 rfl) ?_
              refine lv_bipush (v := 96) hx hb d_Wo_mayBeShort_43 (by decide) ?_
              refine lv_icmp_le (tgt := 84) hx hb d_Wo_mayBeShort_45 (by decide) (fun c_89 => ?_) (fun c_89 => ?_)
              · refine lv_iconst (v := 1) hx hb d_Wo_mayBeShort_84 (by decide) ?_
                refine lv_goto (tgt := 89) hx hb d_Wo_mayBeShort_85 (by decide) ?_
                exact W.zret (v := 1) hx hb hr rfl (fun t ht hW => ⟨⟨1, (), rfl, by rw [wo_short, if_neg c_1, if_neg c_64, wo_short12, if_pos c_65, wo_short24, if_neg c_66, if_neg c_81, wo_short36, if_neg c_82, if_pos c_89], by rw [ht]; exact hP, va_K.moved hW.alike hK, hD⟩, hS.F ht⟩) hS.2.2 d_Wo_mayBeShort_89
              · refine lv_iload_n hx hb d_Wo_mayBeShort_48 rfl (lv_at hl 0 rfl) ?_
                refine lv_bipush (v := 33) hx hb d_Wo_mayBeShort_49 (by decide) ?_
                refine lv_icmp_eq (tgt := 84) hx hb d_Wo_mayBeShort_51 (by decide) (fun c_90 => ?_) (fun c_90 => ?_)
                · refine lv_iconst (v := 1) hx hb d_Wo_mayBeShort_84 (by decide) ?_
                  refine lv_goto (tgt := 89) hx hb d_Wo_mayBeShort_85 (by decide) ?_
                  exact W.zret (v := 1) hx hb hr rfl (fun t ht hW => ⟨⟨1, (), rfl, by rw [wo_short, if_neg c_1, if_neg c_64, wo_short12, if_pos c_65, wo_short24, if_neg c_66, if_neg c_81, wo_short36, if_neg c_82, if_neg c_89, wo_short48, if_pos c_90], by rw [ht]; exact hP, va_K.moved hW.alike hK, hD⟩, hS.F ht⟩) hS.2.2 d_Wo_mayBeShort_89
                · refine lv_iload_n hx hb d_Wo_mayBeShort_54 rfl (lv_at hl 0 rfl) ?_
                  refine lv_bipush (v := 45) hx hb d_Wo_mayBeShort_55 (by decide) ?_
                  refine lv_icmp_eq (tgt := 84) hx hb d_Wo_mayBeShort_57 (by decide) (fun c_91 => ?_) (fun c_91 => ?_)
                  · refine lv_iconst (v := 1) hx hb d_Wo_mayBeShort_84 (by decide) ?_
                    refine lv_goto (tgt := 89) hx hb d_Wo_mayBeShort_85 (by decide) ?_
                    exact W.zret (v := 1) hx hb hr rfl (fun t ht hW => ⟨⟨1, (), rfl, by rw [wo_short, if_neg c_1, if_neg c_64, wo_short12, if_pos c_65, wo_short24, if_neg c_66, if_neg c_81, wo_short36, if_neg c_82, if_neg c_89, wo_short48, if_neg c_90, if_pos c_91], by rw [ht]; exact hP, va_K.moved hW.alike hK, hD⟩, hS.F ht⟩) hS.2.2 d_Wo_mayBeShort_89
                  · refine lv_iload_n hx hb d_Wo_mayBeShort_60 rfl (lv_at hl 0 rfl) ?_
                    refine lv_bipush (v := 64) hx hb d_Wo_mayBeShort_61 (by decide) ?_
                    refine lv_icmp_eq (tgt := 84) hx hb d_Wo_mayBeShort_63 (by decide) (fun c_92 => ?_) (fun c_92 => ?_)
                    · refine lv_iconst (v := 1) hx hb d_Wo_mayBeShort_84 (by decide) ?_
                      refine lv_goto (tgt := 89) hx hb d_Wo_mayBeShort_85 (by decide) ?_
                      exact W.zret (v := 1) hx hb hr rfl (fun t ht hW => ⟨⟨1, (), rfl, by rw [wo_short, if_neg c_1, if_neg c_64, wo_short12, if_pos c_65, wo_short24, if_neg c_66, if_neg c_81, wo_short36, if_neg c_82, if_neg c_89, wo_short48, if_neg c_90, if_neg c_91, if_pos c_92], by rw [ht]; exact hP, va_K.moved hW.alike hK, hD⟩, hS.F ht⟩) hS.2.2 d_Wo_mayBeShort_89
                    · refine lv_iload_n hx hb d_Wo_mayBeShort_66 rfl (lv_at hl 0 rfl) ?_
                      refine lv_bipush (v := 123) hx hb d_Wo_mayBeShort_67 (by decide) ?_
                      refine lv_icmp_eq (tgt := 84) hx hb d_Wo_mayBeShort_69 (by decide) (fun c_93 => ?_) (fun c_93 => ?_)
                      · refine lv_iconst (v := 1) hx hb d_Wo_mayBeShort_84 (by decide) ?_
                        refine lv_goto (tgt := 89) hx hb d_Wo_mayBeShort_85 (by decide) ?_
                        exact W.zret (v := 1) hx hb hr rfl (fun t ht hW => ⟨⟨1, (), rfl, by rw [wo_short, if_neg c_1, if_neg c_64, wo_short12, if_pos c_65, wo_short24, if_neg c_66, if_neg c_81, wo_short36, if_neg c_82, if_neg c_89, wo_short48, if_neg c_90, if_neg c_91, if_neg c_92, if_pos c_93], by rw [ht]; exact hP, va_K.moved hW.alike hK, hD⟩, hS.F ht⟩) hS.2.2 d_Wo_mayBeShort_89
                      · refine lv_iload_n hx hb d_Wo_mayBeShort_72 rfl (lv_at hl 0 rfl) ?_
                        refine lv_bipush (v := 125) hx hb d_Wo_mayBeShort_73 (by decide) ?_
                        refine lv_icmp_eq (tgt := 84) hx hb d_Wo_mayBeShort_75 (by decide) (fun c_94 => ?_) (fun c_94 => ?_)
                        · refine lv_iconst (v := 1) hx hb d_Wo_mayBeShort_84 (by decide) ?_
                          refine lv_goto (tgt := 89) hx hb d_Wo_mayBeShort_85 (by decide) ?_
                          exact W.zret (v := 1) hx hb hr rfl (fun t ht hW => ⟨⟨1, (), rfl, by rw [wo_short, if_neg c_1, if_neg c_64, wo_short12, if_pos c_65, wo_short24, if_neg c_66, if_neg c_81, wo_short36, if_neg c_82, if_neg c_89, wo_short48, if_neg c_90, if_neg c_91, if_neg c_92, if_neg c_93, if_pos c_94], by rw [ht]; exact hP, va_K.moved hW.alike hK, hD⟩, hS.F ht⟩) hS.2.2 d_Wo_mayBeShort_89
                        · refine lv_iload_n hx hb d_Wo_mayBeShort_78 rfl (lv_at hl 0 rfl) ?_
                          refine lv_bipush (v := 126) hx hb d_Wo_mayBeShort_79 (by decide) ?_
                          refine lv_icmp_ne (tgt := 88) hx hb d_Wo_mayBeShort_81 (by decide) (fun c_95 => ?_) (fun c_95 => ?_)
                          · refine lv_iconst (v := 0) hx hb d_Wo_mayBeShort_88 (by decide) ?_
                            exact W.zret (v := 0) hx hb hr rfl (fun t ht hW => ⟨⟨0, (), rfl, by rw [wo_short, if_neg c_1, if_neg c_64, wo_short12, if_pos c_65, wo_short24, if_neg c_66, if_neg c_81, wo_short36, if_neg c_82, if_neg c_89, wo_short48, if_neg c_90, if_neg c_91, if_neg c_92, if_neg c_93, if_neg c_94, if_neg c_95], by rw [ht]; exact hP, va_K.moved hW.alike hK, hD⟩, hS.F ht⟩) hS.2.2 d_Wo_mayBeShort_89
                          · refine lv_iconst (v := 1) hx hb d_Wo_mayBeShort_84 (by decide) ?_
                            refine lv_goto (tgt := 89) hx hb d_Wo_mayBeShort_85 (by decide) ?_
                            exact W.zret (v := 1) hx hb hr rfl (fun t ht hW => ⟨⟨1, (), rfl, by rw [wo_short, if_neg c_1, if_neg c_64, wo_short12, if_pos c_65, wo_short24, if_neg c_66, if_neg c_81, wo_short36, if_neg c_82, if_neg c_89, wo_short48, if_neg c_90, if_neg c_91, if_neg c_92, if_neg c_93, if_neg c_94, if_pos c_95], by rw [ht]; exact hP, va_K.moved hW.alike hK, hD⟩, hS.F ht⟩) hS.2.2 d_Wo_mayBeShort_89
      · refine lv_iload_n hx hb d_Wo_mayBeShort_18 rfl (lv_at hl 0 rfl) ?_
        refine lv_bipush (v := 57) hx hb d_Wo_mayBeShort_19 (by decide) ?_
        refine lv_icmp_le (tgt := 84) hx hb d_Wo_mayBeShort_21 (by decide) (fun c_96 => ?_) (fun c_96 => ?_)
        · refine lv_iconst (v := 1) hx hb d_Wo_mayBeShort_84 (by decide) ?_
          refine lv_goto (tgt := 89) hx hb d_Wo_mayBeShort_85 (by decide) ?_
          exact W.zret (v := 1) hx hb hr rfl (fun t ht hW => ⟨⟨1, (), rfl, by rw [wo_short, if_neg c_1, if_neg c_64, wo_short12, if_neg c_65, if_pos c_96], by rw [ht]; exact hP, va_K.moved hW.alike hK, hD⟩, hS.F ht⟩) hS.2.2 d_Wo_mayBeShort_89
        · refine lv_iload_n hx hb d_Wo_mayBeShort_24 rfl (lv_at hl 0 rfl) ?_
          refine lv_bipush (v := 35) hx hb d_Wo_mayBeShort_25 (by decide) ?_
          refine lv_icmp_lt (tgt := 36) hx hb d_Wo_mayBeShort_27 (by decide) (fun c_97 => ?_) (fun c_97 => ?_)
          · refine lv_iload_n hx hb d_Wo_mayBeShort_36 rfl (lv_at hl 0 rfl) ?_
            refine lv_bipush (v := 94) hx hb d_Wo_mayBeShort_37 (by decide) ?_
            refine lv_icmp_lt (tgt := 48) hx hb d_Wo_mayBeShort_39 (by decide) (fun c_98 => ?_) (fun c_98 => ?_)
            · refine lv_iload_n hx hb d_Wo_mayBeShort_48 rfl (lv_at hl 0 rfl) ?_
              refine lv_bipush (v := 33) hx hb d_Wo_mayBeShort_49 (by decide) ?_
              refine lv_icmp_eq (tgt := 84) hx hb d_Wo_mayBeShort_51 (by decide) (fun c_99 => ?_) (fun c_99 => ?_)
              · refine lv_iconst (v := 1) hx hb d_Wo_mayBeShort_84 (by decide) ?_
                refine lv_goto (tgt := 89) hx hb d_Wo_mayBeShort_85 (by decide) ?_
                exact W.zret (v := 1) hx hb hr rfl (fun t ht hW => ⟨⟨1, (), rfl, by rw [wo_short, if_neg c_1, if_neg c_64, wo_short12, if_neg c_65, if_neg c_96, wo_short24, if_pos c_97, wo_short36, if_pos c_98, wo_short48, if_pos c_99], by rw [ht]; exact hP, va_K.moved hW.alike hK, hD⟩, hS.F ht⟩) hS.2.2 d_Wo_mayBeShort_89
              · refine lv_iload_n hx hb d_Wo_mayBeShort_54 rfl (lv_at hl 0 rfl) ?_
                refine lv_bipush (v := 45) hx hb d_Wo_mayBeShort_55 (by decide) ?_
                refine lv_icmp_eq (tgt := 84) hx hb d_Wo_mayBeShort_57 (by decide) (fun c_100 => ?_) (fun c_100 => ?_)
                · refine lv_iconst (v := 1) hx hb d_Wo_mayBeShort_84 (by decide) ?_
                  refine lv_goto (tgt := 89) hx hb d_Wo_mayBeShort_85 (by decide) ?_
                  exact W.zret (v := 1) hx hb hr rfl (fun t ht hW => ⟨⟨1, (), rfl, by rw [wo_short, if_neg c_1, if_neg c_64, wo_short12, if_neg c_65, if_neg c_96, wo_short24, if_pos c_97, wo_short36, if_pos c_98, wo_short48, if_neg c_99, if_pos c_100], by rw [ht]; exact hP, va_K.moved hW.alike hK, hD⟩, hS.F ht⟩) hS.2.2 d_Wo_mayBeShort_89
                · refine lv_iload_n hx hb d_Wo_mayBeShort_60 rfl (lv_at hl 0 rfl) ?_
                  refine lv_bipush (v := 64) hx hb d_Wo_mayBeShort_61 (by decide) ?_
                  refine lv_icmp_eq (tgt := 84) hx hb d_Wo_mayBeShort_63 (by decide) (fun c_101 => ?_) (fun c_101 => ?_)
                  · refine lv_iconst (v := 1) hx hb d_Wo_mayBeShort_84 (by decide) ?_
                    refine lv_goto (tgt := 89) hx hb d_Wo_mayBeShort_85 (by decide) ?_
                    exact W.zret (v := 1) hx hb hr rfl (fun t ht hW => ⟨⟨1, (), rfl, by rw [wo_short, if_neg c_1, if_neg c_64, wo_short12, if_neg c_65, if_neg c_96, wo_short24, if_pos c_97, wo_short36, if_pos c_98, wo_short48, if_neg c_99, if_neg c_100, if_pos c_101], by rw [ht]; exact hP, va_K.moved hW.alike hK, hD⟩, hS.F ht⟩) hS.2.2 d_Wo_mayBeShort_89
                  · refine lv_iload_n hx hb d_Wo_mayBeShort_66 rfl (lv_at hl 0 rfl) ?_
                    refine lv_bipush (v := 123) hx hb d_Wo_mayBeShort_67 (by decide) ?_
                    refine lv_icmp_eq (tgt := 84) hx hb d_Wo_mayBeShort_69 (by decide) (fun c_102 => ?_) (fun c_102 => ?_)
                    · refine lv_iconst (v := 1) hx hb d_Wo_mayBeShort_84 (by decide) ?_
                      refine lv_goto (tgt := 89) hx hb d_Wo_mayBeShort_85 (by decide) ?_
                      exact W.zret (v := 1) hx hb hr rfl (fun t ht hW => ⟨⟨1, (), rfl, by rw [wo_short, if_neg c_1, if_neg c_64, wo_short12, if_neg c_65, if_neg c_96, wo_short24, if_pos c_97, wo_short36, if_pos c_98, wo_short48, if_neg c_99, if_neg c_100, if_neg c_101, if_pos c_102], by rw [ht]; exact hP, va_K.moved hW.alike hK, hD⟩, hS.F ht⟩) hS.2.2 d_Wo_mayBeShort_89
                    · refine lv_iload_n hx hb d_Wo_mayBeShort_72 rfl (lv_at hl 0 rfl) ?_
                      refine lv_bipush (v := 125) hx hb d_Wo_mayBeShort_73 (by decide) ?_
                      refine lv_icmp_eq (tgt := 84) hx hb d_Wo_mayBeShort_75 (by decide) (fun c_103 => ?_) (fun c_103 => ?_)
                      · refine lv_iconst (v := 1) hx hb d_Wo_mayBeShort_84 (by decide) ?_
                        refine lv_goto (tgt := 89) hx hb d_Wo_mayBeShort_85 (by decide) ?_
                        exact W.zret (v := 1) hx hb hr rfl (fun t ht hW => ⟨⟨1, (), rfl, by rw [wo_short, if_neg c_1, if_neg c_64, wo_short12, if_neg c_65, if_neg c_96, wo_short24, if_pos c_97, wo_short36, if_pos c_98, wo_short48, if_neg c_99, if_neg c_100, if_neg c_101, if_neg c_102, if_pos c_103], by rw [ht]; exact hP, va_K.moved hW.alike hK, hD⟩, hS.F ht⟩) hS.2.2 d_Wo_mayBeShort_89
                      · refine lv_iload_n hx hb d_Wo_mayBeShort_78 rfl (lv_at hl 0 rfl) ?_
                        refine lv_bipush (v := 126) hx hb d_Wo_mayBeShort_79 (by decide) ?_
                        refine lv_icmp_ne (tgt := 88) hx hb d_Wo_mayBeShort_81 (by decide) (fun c_104 => ?_) (fun c_104 => ?_)
                        · refine lv_iconst (v := 0) hx hb d_Wo_mayBeShort_88 (by decide) ?_
                          exact W.zret (v := 0) hx hb hr rfl (fun t ht hW => ⟨⟨0, (), rfl, by rw [wo_short, if_neg c_1, if_neg c_64, wo_short12, if_neg c_65, if_neg c_96, wo_short24, if_pos c_97, wo_short36, if_pos c_98, wo_short48, if_neg c_99, if_neg c_100, if_neg c_101, if_neg c_102, if_neg c_103, if_neg c_104], by rw [ht]; exact hP, va_K.moved hW.alike hK, hD⟩, hS.F ht⟩) hS.2.2 d_Wo_mayBeShort_89
                        · refine lv_iconst (v := 1) hx hb d_Wo_mayBeShort_84 (by decide) ?_
                          refine lv_goto (tgt := 89) hx hb d_Wo_mayBeShort_85 (by decide) ?_
                          exact W.zret (v := 1) hx hb hr rfl (fun t ht hW => ⟨⟨1, (), rfl, by rw [wo_short, if_neg c_1, if_neg c_64, wo_short12, if_neg c_65, if_neg c_96, wo_short24, if_pos c_97, wo_short36, if_pos c_98, wo_short48, if_neg c_99, if_neg c_100, if_neg c_101, if_neg c_102, if_neg c_103, if_pos c_104], by rw [ht]; exact hP, va_K.moved hW.alike hK, hD⟩, hS.F ht⟩) hS.2.2 d_Wo_mayBeShort_89
            · refine lv_iload_n hx hb d_Wo_mayBeShort_42 rfl (lv_at hl 0 rfl) ?_
              refine lv_bipush (v := 96) hx hb d_Wo_mayBeShort_43 (by decide) ?_
              refine lv_icmp_le (tgt := 84) hx hb d_Wo_mayBeShort_45 (by decide) (fun c_105 => ?_) (fun c_105 => ?_)
              · refine lv_iconst (v := 1) hx hb d_Wo_mayBeShort_84 (by decide) ?_
                refine lv_goto (tgt := 89) hx hb d_Wo_mayBeShort_85 (by decide) ?_
                exact W.zret (v := 1) hx hb hr rfl (fun t ht hW => ⟨⟨1, (), rfl, by rw [wo_short, if_neg c_1, if_neg c_64, wo_short12, if_neg c_65, if_neg c_96, wo_short24, if_pos c_97, wo_short36, if_neg c_98, if_pos c_105], by rw [ht]; exact hP, va_K.moved hW.alike hK, hD⟩, hS.F ht⟩) hS.2.2 d_Wo_mayBeShort_89
              · refine lv_iload_n hx hb d_Wo_mayBeShort_48 rfl (lv_at hl 0 rfl) ?_
                refine lv_bipush (v := 33) hx hb d_Wo_mayBeShort_49 (by decide) ?_
                refine lv_icmp_eq (tgt := 84) hx hb d_Wo_mayBeShort_51 (by decide) (fun c_106 => ?_) (fun c_106 => ?_)
                · refine lv_iconst (v := 1) hx hb d_Wo_mayBeShort_84 (by decide) ?_
                  refine lv_goto (tgt := 89) hx hb d_Wo_mayBeShort_85 (by decide) ?_
                  exact W.zret (v := 1) hx hb hr rfl (fun t ht hW => ⟨⟨1, (), rfl, by rw [wo_short, if_neg c_1, if_neg c_64, wo_short12, if_neg c_65, if_neg c_96, wo_short24, if_pos c_97, wo_short36, if_neg c_98, if_neg c_105, wo_short48, if_pos c_106], by rw [ht]; exact hP, va_K.moved hW.alike hK, hD⟩, hS.F ht⟩) hS.2.2 d_Wo_mayBeShort_89
                · refine lv_iload_n hx hb d_Wo_mayBeShort_54 rfl (lv_at hl 0 rfl) ?_
                  refine lv_bipush (v := 45) hx hb d_Wo_mayBeShort_55 (by decide) ?_
                  refine lv_icmp_eq (tgt := 84) hx hb d_Wo_mayBeShort_57 (by decide) (fun c_107 => ?_) (fun c_107 => ?_)
                  · refine lv_iconst (v := 1) hx hb d_Wo_mayBeShort_84 (by decide) ?_
                    refine lv_goto (tgt := 89) hx hb d_Wo_mayBeShort_85 (by decide) ?_
                    exact W.zret (v := 1) hx hb hr rfl (fun t ht hW => ⟨⟨1, (), rfl, by rw [wo_short, if_neg c_1, if_neg c_64, wo_short12, if_neg c_65, if_neg c_96, wo_short24, if_pos c_97, wo_short36, if_neg c_98, if_neg c_105, wo_short48, if_neg c_106, if_pos c_107], by rw [ht]; exact hP, va_K.moved hW.alike hK, hD⟩, hS.F ht⟩) hS.2.2 d_Wo_mayBeShort_89
                  · refine lv_iload_n hx hb d_Wo_mayBeShort_60 rfl (lv_at hl 0 rfl) ?_
                    refine lv_bipush (v := 64) hx hb d_Wo_mayBeShort_61 (by decide) ?_
                    refine lv_icmp_eq (tgt := 84) hx hb d_Wo_mayBeShort_63 (by decide) (fun c_108 => ?_) (fun c_108 => ?_)
                    · refine lv_iconst (v := 1) hx hb d_Wo_mayBeShort_84 (by decide) ?_
                      refine lv_goto (tgt := 89) hx hb d_Wo_mayBeShort_85 (by decide) ?_
                      exact W.zret (v := 1) hx hb hr rfl (fun t ht hW => ⟨⟨1, (), rfl, by rw [wo_short, if_neg c_1, if_neg c_64, wo_short12, if_neg c_65, if_neg c_96, wo_short24, if_pos c_97, wo_short36, if_neg c_98, if_neg c_105, wo_short48, if_neg c_106, if_neg c_107, if_pos c_108], by rw [ht]; exact hP, va_K.moved hW.alike hK, hD⟩, hS.F ht⟩) hS.2.2 d_Wo_mayBeShort_89
                    · refine lv_iload_n hx hb d_Wo_mayBeShort_66 rfl (lv_at hl 0 rfl) ?_
                      refine lv_bipush (v := 123) hx hb d_Wo_mayBeShort_67 (by decide) ?_
                      refine lv_icmp_eq (tgt := 84) hx hb d_Wo_mayBeShort_69 (by decide) (fun c_109 => ?_) (fun c_109 => ?_)
                      · refine lv_iconst (v := 1) hx hb d_Wo_mayBeShort_84 (by decide) ?_
                        refine lv_goto (tgt := 89) hx hb d_Wo_mayBeShort_85 (by decide) ?_
                        exact W.zret (v := 1) hx hb hr rfl (fun t ht hW => ⟨⟨1, (), rfl, by rw [wo_short, if_neg c_1, if_neg c_64, wo_short12, if_neg c_65, if_neg c_96, wo_short24, if_pos c_97, wo_short36, if_neg c_98, if_neg c_105, wo_short48, if_neg c_106, if_neg c_107, if_neg c_108, if_pos c_109], by rw [ht]; exact hP, va_K.moved hW.alike hK, hD⟩, hS.F ht⟩) hS.2.2 d_Wo_mayBeShort_89
                      · refine lv_iload_n hx hb d_Wo_mayBeShort_72 rfl (lv_at hl 0 rfl) ?_
                        refine lv_bipush (v := 125) hx hb d_Wo_mayBeShort_73 (by decide) ?_
                        refine lv_icmp_eq (tgt := 84) hx hb d_Wo_mayBeShort_75 (by decide) (fun c_110 => ?_) (fun c_110 => ?_)
                        · refine lv_iconst (v := 1) hx hb d_Wo_mayBeShort_84 (by decide) ?_
                          refine lv_goto (tgt := 89) hx hb d_Wo_mayBeShort_85 (by decide) ?_
                          exact W.zret (v := 1) hx hb hr rfl (fun t ht hW => ⟨⟨1, (), rfl, by rw [wo_short, if_neg c_1, if_neg c_64, wo_short12, if_neg c_65, if_neg c_96, wo_short24, if_pos c_97, wo_short36, if_neg c_98, if_neg c_105, wo_short48, if_neg c_106, if_neg c_107, if_neg c_108, if_neg c_109, if_pos c_110], by rw [ht]; exact hP, va_K.moved hW.alike hK, hD⟩, hS.F ht⟩) hS.2.2 d_Wo_mayBeShort_89
                        · refine lv_iload_n hx hb d_Wo_mayBeShort_78 rfl (lv_at hl 0 rfl) ?_
                          refine lv_bipush (v := 126) hx hb d_Wo_mayBeShort_79 (by decide) ?_
                          refine lv_icmp_ne (tgt := 88) hx hb d_Wo_mayBeShort_81 (by decide) (fun c_111 => ?_) (fun c_111 => ?_)
                          · refine lv_iconst (v := 0) hx hb d_Wo_mayBeShort_88 (by decide) ?_
                            exact W.zret (v := 0) hx hb hr rfl (fun t ht hW => ⟨⟨0, (), rfl, by rw [wo_short, if_neg c_1, if_neg c_64, wo_short12, if_neg c_65, if_neg c_96, wo_short24, if_pos c_97, wo_short36, if_neg c_98, if_neg c_105, wo_short48, if_neg c_106, if_neg c_107, if_neg c_108, if_neg c_109, if_neg c_110, if_neg c_111], by rw [ht]; exact hP, va_K.moved hW.alike hK, hD⟩, hS.F ht⟩) hS.2.2 d_Wo_mayBeShort_89
                          · refine lv_iconst (v := 1) hx hb d_Wo_mayBeShort_84 (by decide) ?_
                            refine lv_goto (tgt := 89) hx hb d_Wo_mayBeShort_85 (by decide) ?_
                            exact W.zret (v := 1) hx hb hr rfl (fun t ht hW => ⟨⟨1, (), rfl, by rw [wo_short, if_neg c_1, if_neg c_64, wo_short12, if_neg c_65, if_neg c_96, wo_short24, if_pos c_97, wo_short36, if_neg c_98, if_neg c_105, wo_short48, if_neg c_106, if_neg c_107, if_neg c_108, if_neg c_109, if_neg c_110, if_pos c_111], by rw [ht]; exact hP, va_K.moved hW.alike hK, hD⟩, hS.F ht⟩) hS.2.2 d_Wo_mayBeShort_89
          · refine lv_iload_n hx hb d_Wo_mayBeShort_30 rfl (lv_at hl 0 rfl) ?_
            refine lv_bipush (v := 41) hx hb d_Wo_mayBeShort_31 (by decide) ?_
            refine lv_icmp_le (tgt := 84) hx hb d_Wo_mayBeShort_33 (by decide) (fun c_112 => ?_) (fun c_112 => ?_)
            · refine lv_iconst (v := 1) hx hb d_Wo_mayBeShort_84 (by decide) ?_
              refine lv_goto (tgt := 89) hx hb d_Wo_mayBeShort_85 (by decide) ?_
              exact W.zret (v := 1) hx hb hr rfl (fun t ht hW => ⟨⟨1, (), rfl, by rw [wo_short, if_neg c_1, if_neg c_64, wo_short12, if_neg c_65, if_neg c_96, wo_short24, if_neg c_97, if_pos c_112], by rw [ht]; exact hP, va_K.moved hW.alike hK, hD⟩, hS.F ht⟩) hS.2.2 d_Wo_mayBeShort_89
            · refine lv_iload_n hx hb d_Wo_mayBeShort_36 rfl (lv_at hl 0 rfl) ?_
              refine lv_bipush (v := 94) hx hb d_Wo_mayBeShort_37 (by decide) ?_
              refine lv_icmp_lt (tgt := 48) hx hb d_Wo_mayBeShort_39 (by decide) (fun c_113 => ?_) (fun c_113 => ?_)
              · refine lv_iload_n hx hb d_Wo_mayBeShort_48 rfl (lv_at hl 0 rfl) ?_
                refine lv_bipush (v := 33) hx hb d_Wo_mayBeShort_49 (by decide) ?_
                refine lv_icmp_eq (tgt := 84) hx hb d_Wo_mayBeShort_51 (by decide) (fun c_114 => ?_) (fun c_114 => ?_)
                · refine lv_iconst (v := 1) hx hb d_Wo_mayBeShort_84 (by decide) ?_
                  refine lv_goto (tgt := 89) hx hb d_Wo_mayBeShort_85 (by decide) ?_
                  exact W.zret (v := 1) hx hb hr rfl (fun t ht hW => ⟨⟨1, (), rfl, by rw [wo_short, if_neg c_1, if_neg c_64, wo_short12, if_neg c_65, if_neg c_96, wo_short24, if_neg c_97, if_neg c_112, wo_short36, if_pos c_113, wo_short48, if_pos c_114], by rw [ht]; exact hP, va_K.moved hW.alike hK, hD⟩, hS.F ht⟩) hS.2.2 d_Wo_mayBeShort_89
                · refine lv_iload_n hx hb d_Wo_mayBeShort_54 rfl (lv_at hl 0 rfl) ?_
                  refine lv_bipush (v := 45) hx hb d_Wo_mayBeShort_55 (by decide) ?_
                  refine lv_icmp_eq (tgt := 84) hx hb d_Wo_mayBeShort_57 (by decide) (fun c_115 => ?_) (fun c_115 => ?_)
                  · refine lv_iconst (v := 1) hx hb d_Wo_mayBeShort_84 (by decide) ?_
                    refine lv_goto (tgt := 89) hx hb d_Wo_mayBeShort_85 (by decide) ?_
                    exact W.zret (v := 1) hx hb hr rfl (fun t ht hW => ⟨⟨1, (), rfl, by rw [wo_short, if_neg c_1, if_neg c_64, wo_short12, if_neg c_65, if_neg c_96, wo_short24, if_neg c_97, if_neg c_112, wo_short36, if_pos c_113, wo_short48, if_neg c_114, if_pos c_115], by rw [ht]; exact hP, va_K.moved hW.alike hK, hD⟩, hS.F ht⟩) hS.2.2 d_Wo_mayBeShort_89
                  · refine lv_iload_n hx hb d_Wo_mayBeShort_60 rfl (lv_at hl 0 rfl) ?_
                    refine lv_bipush (v := 64) hx hb d_Wo_mayBeShort_61 (by decide) ?_
                    refine lv_icmp_eq (tgt := 84) hx hb d_Wo_mayBeShort_63 (by decide) (fun c_116 => ?_) (fun c_116 => ?_)
                    · refine lv_iconst (v := 1) hx hb d_Wo_mayBeShort_84 (by decide) ?_
                      refine lv_goto (tgt := 89) hx hb d_Wo_mayBeShort_85 (by decide) ?_
                      exact W.zret (v := 1) hx hb hr rfl (fun t ht hW => ⟨⟨1, (), rfl, by rw [wo_short, if_neg c_1, if_neg c_64, wo_short12, if_neg c_65, if_neg c_96, wo_short24, if_neg c_97, if_neg c_112, wo_short36, if_pos c_113, wo_short48, if_neg c_114, if_neg c_115, if_pos c_116], by rw [ht]; exact hP, va_K.moved hW.alike hK, hD⟩, hS.F ht⟩) hS.2.2 d_Wo_mayBeShort_89
                    · refine lv_iload_n hx hb d_Wo_mayBeShort_66 rfl (lv_at hl 0 rfl) ?_
                      refine lv_bipush (v := 123) hx hb d_Wo_mayBeShort_67 (by decide) ?_
                      refine lv_icmp_eq (tgt := 84) hx hb d_Wo_mayBeShort_69 (by decide) (fun c_117 => ?_) (fun c_117 => ?_)
                      · refine lv_iconst (v := 1) hx hb d_Wo_mayBeShort_84 (by decide) ?_
                        refine lv_goto (tgt := 89) hx hb d_Wo_mayBeShort_85 (by decide) ?_
                        exact W.zret (v := 1) hx hb hr rfl (fun t ht hW => ⟨⟨1, (), rfl, by rw [wo_short, if_neg c_1, if_neg c_64, wo_short12, if_neg c_65, if_neg c_96, wo_short24, if_neg c_97, if_neg c_112, wo_short36, if_pos c_113, wo_short48, if_neg c_114, if_neg c_115, if_neg c_116, if_pos c_117], by rw [ht]; exact hP, va_K.moved hW.alike hK, hD⟩, hS.F ht⟩) hS.2.2 d_Wo_mayBeShort_89
                      · refine lv_iload_n hx hb d_Wo_mayBeShort_72 rfl (lv_at hl 0 rfl) ?_
                        refine lv_bipush (v := 125) hx hb d_Wo_mayBeShort_73 (by decide) ?_
                        refine lv_icmp_eq (tgt := 84) hx hb d_Wo_mayBeShort_75 (by decide) (fun c_118 => ?_) (fun c_118 => ?_)
                        · refine lv_iconst (v := 1) hx hb d_Wo_mayBeShort_84 (by decide) ?_
                          refine lv_goto (tgt := 89) hx hb d_Wo_mayBeShort_85 (by decide) ?_
                          exact W.zret (v := 1) hx hb hr rfl (fun t ht hW => ⟨⟨1, (), rfl, by rw [wo_short, if_neg c_1, if_neg c_64, wo_short12, if_neg c_65, if_neg c_96, wo_short24, if_neg c_97, if_neg c_112, wo_short36, if_pos c_113, wo_short48, if_neg c_114, if_neg c_115, if_neg c_116, if_neg c_117, if_pos c_118], by rw [ht]; exact hP, va_K.moved hW.alike hK, hD⟩, hS.F ht⟩) hS.2.2 d_Wo_mayBeShort_89
                        · refine lv_iload_n hx hb d_Wo_mayBeShort_78 rfl (lv_at hl 0 rfl) ?_
                          refine lv_bipush (v := 126) hx hb d_Wo_mayBeShort_79 (by decide) ?_
                          refine lv_icmp_ne (tgt := 88) hx hb d_Wo_mayBeShort_81 (by decide) (fun c_119 => ?_) (fun c_119 => ?_)
                          · refine lv_iconst (v := 0) hx hb d_Wo_mayBeShort_88 (by decide) ?_
                            exact W.zret (v := 0) hx hb hr rfl (fun t ht hW => ⟨⟨0, (), rfl, by rw [wo_short, if_neg c_1, if_neg c_64, wo_short12, if_neg c_65, if_neg c_96, wo_short24, if_neg c_97, if_neg c_112, wo_short36, if_pos c_113, wo_short48, if_neg c_114, if_neg c_115, if_neg c_116, if_neg c_117, if_neg c_118, if_neg c_119], by rw [ht]; exact hP, va_K.moved hW.alike hK, hD⟩, hS.F ht⟩) hS.2.2 d_Wo_mayBeShort_89
                          · refine lv_iconst (v := 1) hx hb d_Wo_mayBeShort_84 (by decide) ?_
                            refine lv_goto (tgt := 89) hx hb d_Wo_mayBeShort_85 (by decide) ?_
                            exact W.zret (v := 1) hx hb hr rfl (fun t ht hW => ⟨⟨1, (), rfl, by rw [wo_short, if_neg c_1, if_neg c_64, wo_short12, if_neg c_65, if_neg c_96, wo_short24, if_neg c_97, if_neg c_112, wo_short36, if_pos c_113, wo_short48, if_neg c_114, if_neg c_115, if_neg c_116, if_neg c_117, if_neg c_118, if_pos c_119], by rw [ht]; exact hP, va_K.moved hW.alike hK, hD⟩, hS.F ht⟩) hS.2.2 d_Wo_mayBeShort_89
              · refine lv_iload_n hx hb d_Wo_mayBeShort_42 rfl (lv_at hl 0 rfl) ?_
                refine lv_bipush (v := 96) hx hb d_Wo_mayBeShort_43 (by decide) ?_
                refine lv_icmp_le (tgt := 84) hx hb d_Wo_mayBeShort_45 (by decide) (fun c_120 => ?_) (fun c_120 => ?_)
                · refine lv_iconst (v := 1) hx hb d_Wo_mayBeShort_84 (by decide) ?_
                  refine lv_goto (tgt := 89) hx hb d_Wo_mayBeShort_85 (by decide) ?_
                  exact W.zret (v := 1) hx hb hr rfl (fun t ht hW => ⟨⟨1, (), rfl, by rw [wo_short, if_neg c_1, if_neg c_64, wo_short12, if_neg c_65, if_neg c_96, wo_short24, if_neg c_97, if_neg c_112, wo_short36, if_neg c_113, if_pos c_120], by rw [ht]; exact hP, va_K.moved hW.alike hK, hD⟩, hS.F ht⟩) hS.2.2 d_Wo_mayBeShort_89
                · refine lv_iload_n hx hb d_Wo_mayBeShort_48 rfl (lv_at hl 0 rfl) ?_
                  refine lv_bipush (v := 33) hx hb d_Wo_mayBeShort_49 (by decide) ?_
                  refine lv_icmp_eq (tgt := 84) hx hb d_Wo_mayBeShort_51 (by decide) (fun c_121 => ?_) (fun c_121 => ?_)
                  · refine lv_iconst (v := 1) hx hb d_Wo_mayBeShort_84 (by decide) ?_
                    refine lv_goto (tgt := 89) hx hb d_Wo_mayBeShort_85 (by decide) ?_
                    exact W.zret (v := 1) hx hb hr rfl (fun t ht hW => ⟨⟨1, (), rfl, by rw [wo_short, if_neg c_1, if_neg c_64, wo_short12, if_neg c_65, if_neg c_96, wo_short24, if_neg c_97, if_neg c_112, wo_short36, if_neg c_113, if_neg c_120, wo_short48, if_pos c_121], by rw [ht]; exact hP, va_K.moved hW.alike hK, hD⟩, hS.F ht⟩) hS.2.2 d_Wo_mayBeShort_89
                  · refine lv_iload_n hx hb d_Wo_mayBeShort_54 rfl (lv_at hl 0 rfl) ?_
                    refine lv_bipush (v := 45) hx hb d_Wo_mayBeShort_55 (by decide) ?_
                    refine lv_icmp_eq (tgt := 84) hx hb d_Wo_mayBeShort_57 (by decide) (fun c_122 => ?_) (fun c_122 => ?_)
                    · refine lv_iconst (v := 1) hx hb d_Wo_mayBeShort_84 (by decide) ?_
                      refine lv_goto (tgt := 89) hx hb d_Wo_mayBeShort_85 (by decide) ?_
                      exact W.zret (v := 1) hx hb hr rfl (fun t ht hW => ⟨⟨1, (), rfl, by rw [wo_short, if_neg c_1, if_neg c_64, wo_short12, if_neg c_65, if_neg c_96, wo_short24, if_neg c_97, if_neg c_112, wo_short36, if_neg c_113, if_neg c_120, wo_short48, if_neg c_121, if_pos c_122], by rw [ht]; exact hP, va_K.moved hW.alike hK, hD⟩, hS.F ht⟩) hS.2.2 d_Wo_mayBeShort_89
                    · refine lv_iload_n hx hb d_Wo_mayBeShort_60 rfl (lv_at hl 0 rfl) ?_
                      refine lv_bipush (v := 64) hx hb d_Wo_mayBeShort_61 (by decide) ?_
                      refine lv_icmp_eq (tgt := 84) hx hb d_Wo_mayBeShort_63 (by decide) (fun c_123 => ?_) (fun c_123 => ?_)
                      · refine lv_iconst (v := 1) hx hb d_Wo_mayBeShort_84 (by decide) ?_
                        refine lv_goto (tgt := 89) hx hb d_Wo_mayBeShort_85 (by decide) ?_
                        exact W.zret (v := 1) hx hb hr rfl (fun t ht hW => ⟨⟨1, (), rfl, by rw [wo_short, if_neg c_1, if_neg c_64, wo_short12, if_neg c_65, if_neg c_96, wo_short24, if_neg c_97, if_neg c_112, wo_short36, if_neg c_113, if_neg c_120, wo_short48, if_neg c_121, if_neg c_122, if_pos c_123], by rw [ht]; exact hP, va_K.moved hW.alike hK, hD⟩, hS.F ht⟩) hS.2.2 d_Wo_mayBeShort_89
                      · refine lv_iload_n hx hb d_Wo_mayBeShort_66 rfl (lv_at hl 0 rfl) ?_
                        refine lv_bipush (v := 123) hx hb d_Wo_mayBeShort_67 (by decide) ?_
                        refine lv_icmp_eq (tgt := 84) hx hb d_Wo_mayBeShort_69 (by decide) (fun c_124 => ?_) (fun c_124 => ?_)
                        · refine lv_iconst (v := 1) hx hb d_Wo_mayBeShort_84 (by decide) ?_
                          refine lv_goto (tgt := 89) hx hb d_Wo_mayBeShort_85 (by decide) ?_
                          exact W.zret (v := 1) hx hb hr rfl (fun t ht hW => ⟨⟨1, (), rfl, by rw [wo_short, if_neg c_1, if_neg c_64, wo_short12, if_neg c_65, if_neg c_96, wo_short24, if_neg c_97, if_neg c_112, wo_short36, if_neg c_113, if_neg c_120, wo_short48, if_neg c_121, if_neg c_122, if_neg c_123, if_pos c_124], by rw [ht]; exact hP, va_K.moved hW.alike hK, hD⟩, hS.F ht⟩) hS.2.2 d_Wo_mayBeShort_89
                        · refine lv_iload_n hx hb d_Wo_mayBeShort_72 rfl (lv_at hl 0 rfl) ?_
                          refine lv_bipush (v := 125) hx hb d_Wo_mayBeShort_73 (by decide) ?_
                          refine lv_icmp_eq (tgt := 84) hx hb d_Wo_mayBeShort_75 (by decide) (fun c_125 => ?_) (fun c_125 => ?_)
                          · refine lv_iconst (v := 1) hx hb d_Wo_mayBeShort_84 (by decide) ?_
                            refine lv_goto (tgt := 89) hx hb d_Wo_mayBeShort_85 (by decide) ?_
                            exact W.zret (v := 1) hx hb hr rfl (fun t ht hW => ⟨⟨1, (), rfl, by rw [wo_short, if_neg c_1, if_neg c_64, wo_short12, if_neg c_65, if_neg c_96, wo_short24, if_neg c_97, if_neg c_112, wo_short36, if_neg c_113, if_neg c_120, wo_short48, if_neg c_121, if_neg c_122, if_neg c_123, if_neg c_124, if_pos c_125], by rw [ht]; exact hP, va_K.moved hW.alike hK, hD⟩, hS.F ht⟩) hS.2.2 d_Wo_mayBeShort_89
                          · refine lv_iload_n hx hb d_Wo_mayBeShort_78 rfl (lv_at hl 0 rfl) ?_
                            refine lv_bipush (v := 126) hx hb d_Wo_mayBeShort_79 (by decide) ?_
                            refine lv_icmp_ne (tgt := 88) hx hb d_Wo_mayBeShort_81 (by decide) (fun c_126 => ?_) (fun c_126 => ?_)
                            · refine lv_iconst (v := 0) hx hb d_Wo_mayBeShort_88 (by decide) ?_
                              exact W.zret (v := 0) hx hb hr rfl (fun t ht hW => ⟨⟨0, (), rfl, by rw [wo_short, if_neg c_1, if_neg c_64, wo_short12, if_neg c_65, if_neg c_96, wo_short24, if_neg c_97, if_neg c_112, wo_short36, if_neg c_113, if_neg c_120, wo_short48, if_neg c_121, if_neg c_122, if_neg c_123, if_neg c_124, if_neg c_125, if_neg c_126], by rw [ht]; exact hP, va_K.moved hW.alike hK, hD⟩, hS.F ht⟩) hS.2.2 d_Wo_mayBeShort_89
                            · refine lv_iconst (v := 1) hx hb d_Wo_mayBeShort_84 (by decide) ?_
                              refine lv_goto (tgt := 89) hx hb d_Wo_mayBeShort_85 (by decide) ?_
                              exact W.zret (v := 1) hx hb hr rfl (fun t ht hW => ⟨⟨1, (), rfl, by rw [wo_short, if_neg c_1, if_neg c_64, wo_short12, if_neg c_65, if_neg c_96, wo_short24, if_neg c_97, if_neg c_112, wo_short36, if_neg c_113, if_neg c_120, wo_short48, if_neg c_121, if_neg c_122, if_neg c_123, if_neg c_124, if_neg c_125, if_pos c_126], by rw [ht]; exact hP, va_K.moved hW.alike hK, hD⟩, hS.F ht⟩) hS.2.2 d_Wo_mayBeShort_89
def wo_cap (p0 : Int32) : Int32 := if p0 < 97 then (p0) else if 122 < p0 then (p0) else (p0 - 32)
set_option maxHeartbeats 4000000 in
set_option maxRecDepth 100000 in
theorem c_Wo_capital (l : Launch) (dC : Nat → ClassId) (dI : Nat → Nat → Nat) (sz : Nat) (p0 : Int32) : Met l y_Wo_capital (.code y_Wo_capital b_Wo_capital 1 (some .int) :: V_Wo) ({ frames := 0, cells := 0, slots := 0, locals := 0 }) (va_Pc [.int p0] (fun U => U.heap.size = sz ∧ at_ (dC, dI) (fun _ => True) [] [] U)) (va_Qi (fun (r : Int32) (u : Unit) => r = wo_cap p0) (fun (u : Unit) t => at_ (dC, dI) (va_A [] sz) [] [] t) (va_A [] sz)) 0 0 (va_A [] sz) := by
  refine Met.ofW (cc := b_Wo_capital) (maxL := 1) (ret := (some .int)) (by decide) rfl ?_
  intro p e s m args below meth c s₁ B hml hv
  obtain ⟨rfl, hsz, hP, hK, hD0⟩ := hv
  have hx := B.exec
  have hb := B.bytes
  have hr := B.returns
  have hts0 := atoms_spec (ws := .code y_Wo_capital b_Wo_capital 1 (some .int) :: V_Wo) B.pre
  have hts : ∀ w ∈ V_Wo, w.before ([.int p0] : List Value).toArray s = true := fun w h => hts0 w (List.mem_cons_of_mem _ h)
  have hown : s.vm.findClass R_Wo = some m.cls := findClass_of_methodNamed B.named
  have hlocks := B.notSynchronized
  subst hsz
  have hD := hD0.self (sz := s.heap.size)
  generalize hAe : va_A [] s.heap.size = A at hD ⊢
  have hA : ∀ q : Nat, s.heap.size ≤ q → A q := fun q h => by rw [← hAe]; exact Or.inr h
  have hS : va_S A s.heap s.heap [] := va_S.rf
  have hP : va_P (dC, dI) classes [] s.heap := hP
  have hK : va_K (dC, dI) classes [] s := hK
  have hl := lv_entry ([.int p0]) (n := 1) (Nat.le_of_ble_eq_true rfl)
  rw [lg_entry_eq]
  generalize (lg_sl ([.int p0]) ++ List.replicate (1 - (lg_sl ([.int p0])).length) Slot.unset).toArray = ls at hl ⊢
  have hl : lv_has ls 1 [(0, .int p0)] := hl
  refine lv_iload_n hx hb d_Wo_capital_0 rfl (lv_at hl 0 rfl) ?_
  refine lv_bipush (v := 97) hx hb d_Wo_capital_1 (by decide) ?_
  refine lv_icmp_lt (tgt := 19) hx hb d_Wo_capital_3 (by decide) (fun c_1 => ?_) (fun c_1 => ?_)
  · refine lv_iload_n hx hb d_Wo_capital_19 rfl (lv_at hl 0 rfl) ?_
    exact W.iret (v := p0) hx hb hr (fun t ht hW => ⟨⟨p0, (), rfl, by rw [wo_cap, if_pos c_1], by rw [ht]; exact hP, va_K.moved hW.alike hK, hD⟩, hS.F ht⟩) hS.2.2 d_Wo_capital_20
  · refine lv_iload_n hx hb d_Wo_capital_6 rfl (lv_at hl 0 rfl) ?_
    refine lv_bipush (v := 122) hx hb d_Wo_capital_7 (by decide) ?_
    refine lv_icmp_gt (tgt := 19) hx hb d_Wo_capital_9 (by decide) (fun c_2 => ?_) (fun c_2 => ?_)
    · refine lv_iload_n hx hb d_Wo_capital_19 rfl (lv_at hl 0 rfl) ?_
      exact W.iret (v := p0) hx hb hr (fun t ht hW => ⟨⟨p0, (), rfl, by rw [wo_cap, if_neg c_1, if_pos c_2], by rw [ht]; exact hP, va_K.moved hW.alike hK, hD⟩, hS.F ht⟩) hS.2.2 d_Wo_capital_20
    · refine lv_iload_n hx hb d_Wo_capital_12 rfl (lv_at hl 0 rfl) ?_
      refine lv_bipush (v := 32) hx hb d_Wo_capital_13 (by decide) ?_
      refine lv_isub hx hb d_Wo_capital_15 ?_
      refine lv_goto (tgt := 20) hx hb d_Wo_capital_16 (by decide) ?_
      exact W.iret (v := (p0 - 32)) hx hb hr (fun t ht hW => ⟨⟨(p0 - 32), (), rfl, by rw [wo_cap, if_neg c_1, if_neg c_2], by rw [ht]; exact hP, va_K.moved hW.alike hK, hD⟩, hS.F ht⟩) hS.2.2 d_Wo_capital_20
def wo_width (p0 : Int32) : Int32 := if 128 ≤ p0 then if 2048 ≤ p0 then (3) else (2) else (1)
set_option maxHeartbeats 4000000 in
set_option maxRecDepth 100000 in
theorem c_Wo_width (l : Launch) (dC : Nat → ClassId) (dI : Nat → Nat → Nat) (sz : Nat) (p0 : Int32) : Met l y_Wo_width (.code y_Wo_width b_Wo_width 1 (some .int) :: V_Wo) ({ frames := 0, cells := 0, slots := 0, locals := 0 }) (va_Pc [.int p0] (fun U => U.heap.size = sz ∧ at_ (dC, dI) (fun _ => True) [] [] U)) (va_Qi (fun (r : Int32) (u : Unit) => r = wo_width p0) (fun (u : Unit) t => at_ (dC, dI) (va_A [] sz) [] [] t) (va_A [] sz)) 0 0 (va_A [] sz) := by
  refine Met.ofW (cc := b_Wo_width) (maxL := 1) (ret := (some .int)) (by decide) rfl ?_
  intro p e s m args below meth c s₁ B hml hv
  obtain ⟨rfl, hsz, hP, hK, hD0⟩ := hv
  have hx := B.exec
  have hb := B.bytes
  have hr := B.returns
  have hts0 := atoms_spec (ws := .code y_Wo_width b_Wo_width 1 (some .int) :: V_Wo) B.pre
  have hts : ∀ w ∈ V_Wo, w.before ([.int p0] : List Value).toArray s = true := fun w h => hts0 w (List.mem_cons_of_mem _ h)
  have hown : s.vm.findClass R_Wo = some m.cls := findClass_of_methodNamed B.named
  have hlocks := B.notSynchronized
  subst hsz
  have hD := hD0.self (sz := s.heap.size)
  generalize hAe : va_A [] s.heap.size = A at hD ⊢
  have hA : ∀ q : Nat, s.heap.size ≤ q → A q := fun q h => by rw [← hAe]; exact Or.inr h
  have hS : va_S A s.heap s.heap [] := va_S.rf
  have hP : va_P (dC, dI) classes [] s.heap := hP
  have hK : va_K (dC, dI) classes [] s := hK
  have hl := lv_entry ([.int p0]) (n := 1) (Nat.le_of_ble_eq_true rfl)
  rw [lg_entry_eq]
  generalize (lg_sl ([.int p0]) ++ List.replicate (1 - (lg_sl ([.int p0])).length) Slot.unset).toArray = ls at hl ⊢
  have hl : lv_has ls 1 [(0, .int p0)] := hl
  refine lv_iload_n hx hb d_Wo_width_0 rfl (lv_at hl 0 rfl) ?_
  refine lv_sipush (v := 128) hx hb d_Wo_width_1 (by decide) ?_
  refine lv_icmp_ge (tgt := 11) hx hb d_Wo_width_4 (by decide) (fun c_1 => ?_) (fun c_1 => ?_)
  · refine lv_iload_n hx hb d_Wo_width_11 rfl (lv_at hl 0 rfl) ?_
    refine lv_sipush (v := 2048) hx hb d_Wo_width_12 (by decide) ?_
    refine lv_icmp_ge (tgt := 22) hx hb d_Wo_width_15 (by decide) (fun c_2 => ?_) (fun c_2 => ?_)
    · refine lv_iconst (v := 3) hx hb d_Wo_width_22 (by decide) ?_
      exact W.iret (v := 3) hx hb hr (fun t ht hW => ⟨⟨3, (), rfl, by rw [wo_width, if_pos c_1, if_pos c_2], by rw [ht]; exact hP, va_K.moved hW.alike hK, hD⟩, hS.F ht⟩) hS.2.2 d_Wo_width_23
    · refine lv_iconst (v := 2) hx hb d_Wo_width_18 (by decide) ?_
      refine lv_goto (tgt := 23) hx hb d_Wo_width_19 (by decide) ?_
      exact W.iret (v := 2) hx hb hr (fun t ht hW => ⟨⟨2, (), rfl, by rw [wo_width, if_pos c_1, if_neg c_2], by rw [ht]; exact hP, va_K.moved hW.alike hK, hD⟩, hS.F ht⟩) hS.2.2 d_Wo_width_23
  · refine lv_iconst (v := 1) hx hb d_Wo_width_7 (by decide) ?_
    refine lv_goto (tgt := 23) hx hb d_Wo_width_8 (by decide) ?_
    exact W.iret (v := 1) hx hb hr (fun t ht hW => ⟨⟨1, (), rfl, by rw [wo_width, if_neg c_1], by rw [ht]; exact hP, va_K.moved hW.alike hK, hD⟩, hS.F ht⟩) hS.2.2 d_Wo_width_23
def wo_byte (p0 p1 : Int32) : Int32 := if p1 ≤ 0 then if (wo_width p0) = 1 then (p0) else if (wo_width p0) = 2 then (192 ||| (p0 >>> ((6 * (((wo_width p0) - 1) - p1)) &&& 31))) else (224 ||| (p0 >>> ((6 * (((wo_width p0) - 1) - p1)) &&& 31))) else (128 ||| ((p0 >>> ((6 * (((wo_width p0) - 1) - p1)) &&& 31)) &&& 63))
set_option maxHeartbeats 4000000 in
set_option maxRecDepth 100000 in
theorem c_Wo_byteOf (l : Launch) (dC : Nat → ClassId) (dI : Nat → Nat → Nat) (sz : Nat) (p0 p1 : Int32) : Met l y_Wo_byteOf (.code y_Wo_byteOf b_Wo_byteOf 4 (some .int) :: V_Wo) ({ frames := 1, cells := 0, slots := 0, locals := 20 }) (va_Pc [.int p0, .int p1] (fun U => U.heap.size = sz ∧ at_ (dC, dI) (fun _ => True) [] [] U)) (va_Qi (fun (r : Int32) (u : Unit) => r = wo_byte p0 p1) (fun (u : Unit) t => at_ (dC, dI) (va_A [] sz) [] [] t) (va_A [] sz)) 0 0 (va_A [] sz) := by
  refine Met.ofW (cc := b_Wo_byteOf) (maxL := 4) (ret := (some .int)) (by decide) rfl ?_
  intro p e s m args below meth c s₁ B hml hv
  obtain ⟨rfl, hsz, hP, hK, hD0⟩ := hv
  have hx := B.exec
  have hb := B.bytes
  have hr := B.returns
  have hts0 := atoms_spec (ws := .code y_Wo_byteOf b_Wo_byteOf 4 (some .int) :: V_Wo) B.pre
  have hts : ∀ w ∈ V_Wo, w.before ([.int p0, .int p1] : List Value).toArray s = true := fun w h => hts0 w (List.mem_cons_of_mem _ h)
  have hown : s.vm.findClass R_Wo = some m.cls := findClass_of_methodNamed B.named
  have hlocks := B.notSynchronized
  subst hsz
  have hD := hD0.self (sz := s.heap.size)
  generalize hAe : va_A [] s.heap.size = A at hD ⊢
  have hA : ∀ q : Nat, s.heap.size ≤ q → A q := fun q h => by rw [← hAe]; exact Or.inr h
  have hS : va_S A s.heap s.heap [] := va_S.rf
  have hP : va_P (dC, dI) classes [] s.heap := hP
  have hK : va_K (dC, dI) classes [] s := hK
  have hl := lv_entry ([.int p0, .int p1]) (n := 4) (Nat.le_of_ble_eq_true rfl)
  rw [lg_entry_eq]
  generalize (lg_sl ([.int p0, .int p1]) ++ List.replicate (4 - (lg_sl ([.int p0, .int p1])).length) Slot.unset).toArray = ls at hl ⊢
  have hl : lv_has ls 4 [(0, .int p0), (1, .int p1)] := hl
  refine lv_iload_n hx hb d_Wo_byteOf_0 rfl (lv_at hl 0 rfl) ?_
  have hPc := hP.sub (ws' := []) [] rfl
  have hDc := hD.sub (ws' := []) [] (by decide) rfl
  have hKc := hK.sub (tys' := []) [] rfl
  have hFc := va_free (wc := []) hD hS hA [] rfl
  refine va_calli (va_runS (As := [.int p0]) (rest := []) ⟨hx, hb, hml, hown, hts⟩ (c_Wo_width l dC dI s.heap.size p0) (va_cwS 1 hts (gwS good_Wo (k_Wo_23) (k_Wo_19) (k_Wo_0) (wcs (k_Wo_20) (fun _ h => h))) rfl rfl rfl (by decide +kernel) ⟨Nat.le_of_ble_eq_true rfl, Nat.le_of_ble_eq_true rfl⟩) (ps_of hPc hKc hDc) rfl rfl hl.1 rfl (lv_room (Nat.le_of_ble_eq_true rfl)) d_Wo_byteOf_1 ⟨by decide, by decide⟩) hS (fun q _ h => hFc q h) hFc (fun r_1 u t H1 locs ht hvm hw hB hz1 hk1 hS => ?_)
  have er_1 := hw
  obtain ⟨hP1, hK1, hD1⟩ := hB
  rw [ht] at hP1
  have hP1 : va_P (dC, dI) classes [] H1 := hP1
  have hD1 : va_D _ [] := hD1
  obtain ⟨hP, hD⟩ := va_join (wr := []) (w1 := []) hP hD [] [] rfl rfl (by decide) (by decide) hk1 hFc hP1 hD1
  generalize H1 = H at hP hS ⊢
  have hP : va_P (dC, dI) classes [] H := hP
  have hD : va_D A [] := hD
  refine lv_istore_n (lv' := [(2, .int r_1), (0, .int p0), (1, .int p1)]) hx hb d_Wo_byteOf_4 rfl hl (by decide) rfl (fun ls hl => ?_)
  refine lv_iload_n hx hb d_Wo_byteOf_5 rfl (lv_at hl 1 rfl) ?_
  refine lv_bipush (v := 6) hx hb d_Wo_byteOf_6 (by decide) ?_
  refine lv_iload_n hx hb d_Wo_byteOf_8 rfl (lv_at hl 0 rfl) ?_
  refine lv_iconst (v := 1) hx hb d_Wo_byteOf_9 (by decide) ?_
  refine lv_isub hx hb d_Wo_byteOf_10 ?_
  refine lv_iload_n hx hb d_Wo_byteOf_11 rfl (lv_at hl 2 rfl) ?_
  refine lv_isub hx hb d_Wo_byteOf_12 ?_
  refine lv_imul hx hb d_Wo_byteOf_13 ?_
  refine lv_ishr hx hb d_Wo_byteOf_14 ?_
  refine lv_topi (fun x_2 ex_2 => ?_)
  refine lv_istore_n (lv' := [(3, .int x_2), (2, .int r_1), (0, .int p0), (1, .int p1)]) hx hb d_Wo_byteOf_15 rfl hl (by decide) rfl (fun ls hl => ?_)
  refine lv_iload_n hx hb d_Wo_byteOf_16 rfl (lv_at hl 3 rfl) ?_
  refine lv_if_le (tgt := 29) hx hb d_Wo_byteOf_17 (by decide) (fun c_3 => ?_) (fun c_3 => ?_)
  · refine lv_iload_n hx hb d_Wo_byteOf_29 rfl (lv_at hl 1 rfl) ?_
    refine lv_iconst (v := 1) hx hb d_Wo_byteOf_30 (by decide) ?_
    refine lv_icmp_ne (tgt := 38) hx hb d_Wo_byteOf_31 (by decide) (fun c_4 => ?_) (fun c_4 => ?_)
    · refine lv_iload_n hx hb d_Wo_byteOf_38 rfl (lv_at hl 1 rfl) ?_
      refine lv_iconst (v := 2) hx hb d_Wo_byteOf_39 (by decide) ?_
      refine lv_icmp_ne (tgt := 51) hx hb d_Wo_byteOf_40 (by decide) (fun c_5 => ?_) (fun c_5 => ?_)
      · refine lv_sipush (v := 224) hx hb d_Wo_byteOf_51 (by decide) ?_
        refine lv_iload_n hx hb d_Wo_byteOf_54 rfl (lv_at hl 0 rfl) ?_
        refine lv_ior hx hb d_Wo_byteOf_55 ?_
        exact W.iret (v := (224 ||| x_2)) hx hb hr (fun t ht hW => ⟨⟨(224 ||| x_2), (), rfl, by rw [wo_byte, ← er_1, ← ex_2, if_pos c_3, if_neg c_4, if_neg c_5], by rw [ht]; exact hP, va_K.moved hW.alike hK, hD⟩, hS.F ht⟩) hS.2.2 d_Wo_byteOf_56
      · refine lv_sipush (v := 192) hx hb d_Wo_byteOf_43 (by decide) ?_
        refine lv_iload_n hx hb d_Wo_byteOf_46 rfl (lv_at hl 0 rfl) ?_
        refine lv_ior hx hb d_Wo_byteOf_47 ?_
        refine lv_goto (tgt := 56) hx hb d_Wo_byteOf_48 (by decide) ?_
        exact W.iret (v := (192 ||| x_2)) hx hb hr (fun t ht hW => ⟨⟨(192 ||| x_2), (), rfl, by rw [wo_byte, ← er_1, ← ex_2, if_pos c_3, if_neg c_4, if_pos c_5], by rw [ht]; exact hP, va_K.moved hW.alike hK, hD⟩, hS.F ht⟩) hS.2.2 d_Wo_byteOf_56
    · refine lv_iload_n hx hb d_Wo_byteOf_34 rfl (lv_at hl 2 rfl) ?_
      refine lv_goto (tgt := 56) hx hb d_Wo_byteOf_35 (by decide) ?_
      exact W.iret (v := p0) hx hb hr (fun t ht hW => ⟨⟨p0, (), rfl, by rw [wo_byte, ← er_1, ← ex_2, if_pos c_3, if_pos c_4], by rw [ht]; exact hP, va_K.moved hW.alike hK, hD⟩, hS.F ht⟩) hS.2.2 d_Wo_byteOf_56
  · refine lv_sipush (v := 128) hx hb d_Wo_byteOf_20 (by decide) ?_
    refine lv_iload_n hx hb d_Wo_byteOf_23 rfl (lv_at hl 0 rfl) ?_
    refine lv_bipush (v := 63) hx hb d_Wo_byteOf_24 (by decide) ?_
    refine lv_iand hx hb d_Wo_byteOf_26 ?_
    refine lv_ior hx hb d_Wo_byteOf_27 ?_
    exact W.iret (v := (128 ||| (x_2 &&& 63))) hx hb hr (fun t ht hW => ⟨⟨(128 ||| (x_2 &&& 63)), (), rfl, by rw [wo_byte, ← er_1, ← ex_2, if_neg c_3], by rw [ht]; exact hP, va_K.moved hW.alike hK, hD⟩, hS.F ht⟩) hS.2.2 d_Wo_byteOf_28
