set_option maxHeartbeats 4000000 in
set_option maxRecDepth 100000 in
theorem l_Wo_mayBeShort (l : Launch) (dC : Nat → ClassId) (dI : Nat → Nat → Nat) {K : Nat} (sz : Nat) {p0 : Int32} {r : Int32} (h : f_Wo_mayBeShort K p0 = some r) : Met l y_Wo_mayBeShort (.code y_Wo_mayBeShort b_Wo_mayBeShort 1 (some .boolean) :: V_Vq) ({ frames := 0, cells := 0, slots := 0, locals := 0 }) (va_Pc [.int p0] (fun U => U.heap.size = sz ∧ at_ (dC, dI) (fun _ => True) [] [] U)) (va_Qi (fun (r_ : Int32) (u : Unit) => r_ = r) (fun (u : Unit) t => at_ (dC, dI) (va_A [] sz) [] [] t) (va_A [] sz)) 0 0 (va_A [] sz) := by
  refine Met.ofW (cc := b_Wo_mayBeShort) (maxL := 1) (ret := (some .boolean)) (by decide) rfl ?_
  intro p e s m args below meth c s₁ B hml hv
  obtain ⟨rfl, hsz, hP, hK, hD0⟩ := hv
  have hx := B.exec
  have hb := B.bytes
  have hr := B.returns
  have hts0 := atoms_spec (ws := .code y_Wo_mayBeShort b_Wo_mayBeShort 1 (some .boolean) :: V_Vq) B.pre
  have hts : ∀ w ∈ V_Vq, w.before ([.int p0] : List Value).toArray s = true := fun w h => hts0 w (List.mem_cons_of_mem _ h)
  have hown : s.vm.findClass R_Wo = some m.cls := findClass_of_methodNamed B.named
  subst hsz
  have hD := hD0.self (sz := s.heap.size)
  generalize hAe : va_A [] s.heap.size = A at hD ⊢
  have hA : ∀ q : Nat, s.heap.size ≤ q → A q := fun q h => by rw [← hAe]; exact Or.inr h
  have hS : va_S A s.heap s.heap [] := va_S.rf
  have hP : va_P (dC, dI) classes [] s.heap := hP
  have hK : va_K (dC, dI) classes [] s := hK
  have hl := lv_entry ([.int p0]) (n := 1) (Nat.le_of_ble_eq_true rfl)
  rw [lg_entry_eq]
  generalize (lg_sl ([.int p0]) ++ List.replicate (1 - (lg_sl ([.int p0])).length) Slot.unset).toArray = ls at hl ⊢
  have hl : lv_has ls 1 [(0, .int p0)] := hl
  refine qabs (fun Q hQ => ?_)
  have hB_84 : ∀ (H : Heap) (locs : List Loc) (ls : Array Slot), f_Wo_mayBeShort_84 K = some r → va_P (dC, dI) classes [] H → va_D A [] → va_S A s.heap H locs → lv_has ls 1 [] → W p l e ({ frames := 0, cells := 0, slots := 0, locals := 0 }) s m ([.int p0] : List Value).toArray below meth c H locs 0 0 Q (F0 m 84 ls []) := by
    intro  H locs ls h hP hD hS hl
    rw [f_Wo_mayBeShort_84] at h
    refine lv_iconst (v := 1) hx hb d_Wo_mayBeShort_84 (by decide) ?_
    refine lv_goto (tgt := 89) hx hb d_Wo_mayBeShort_85 (by decide) ?_
    rw [hQ]
    have e1 : (1 : Int32) = r := Option.some.inj h
    exact W.zret (v := 1) hx hb hr rfl (fun t ht hW => ⟨⟨1, (), rfl, e1, by rw [ht]; exact hP, va_K.moved hW.alike hK, hD⟩, hS.F ht⟩) hS.2.2 d_Wo_mayBeShort_89
  have hB_48 : ∀ (y_0 : Int32) (H : Heap) (locs : List Loc) (ls : Array Slot), f_Wo_mayBeShort_48 K y_0 = some r → va_P (dC, dI) classes [] H → va_D A [] → va_S A s.heap H locs → lv_has ls 1 [(0, .int y_0)] → W p l e ({ frames := 0, cells := 0, slots := 0, locals := 0 }) s m ([.int p0] : List Value).toArray below meth c H locs 0 0 Q (F0 m 48 ls []) := by
    intro y_0 H locs ls h hP hD hS hl
    rw [f_Wo_mayBeShort_48] at h
    refine lv_iload_n hx hb d_Wo_mayBeShort_48 rfl (lv_at hl 0 rfl) ?_
    refine lv_bipush (v := 33) hx hb d_Wo_mayBeShort_49 (by decide) ?_
    refine lv_icmp_eq (tgt := 84) hx hb d_Wo_mayBeShort_51 (by decide) (fun c_9 => ?_) (fun c_9 => ?_)
    · have h := lf_t h c_9
      exact hB_84 _ _ _ h hP hD hS (lv_sub hl [] rfl)
    · have h := lf_f h c_9
      refine lv_iload_n hx hb d_Wo_mayBeShort_54 rfl (lv_at hl 0 rfl) ?_
      refine lv_bipush (v := 45) hx hb d_Wo_mayBeShort_55 (by decide) ?_
      refine lv_icmp_eq (tgt := 84) hx hb d_Wo_mayBeShort_57 (by decide) (fun c_10 => ?_) (fun c_10 => ?_)
      · have h := lf_t h c_10
        exact hB_84 _ _ _ h hP hD hS (lv_sub hl [] rfl)
      · have h := lf_f h c_10
        refine lv_iload_n hx hb d_Wo_mayBeShort_60 rfl (lv_at hl 0 rfl) ?_
        refine lv_bipush (v := 64) hx hb d_Wo_mayBeShort_61 (by decide) ?_
        refine lv_icmp_eq (tgt := 84) hx hb d_Wo_mayBeShort_63 (by decide) (fun c_11 => ?_) (fun c_11 => ?_)
        · have h := lf_t h c_11
          exact hB_84 _ _ _ h hP hD hS (lv_sub hl [] rfl)
        · have h := lf_f h c_11
          refine lv_iload_n hx hb d_Wo_mayBeShort_66 rfl (lv_at hl 0 rfl) ?_
          refine lv_bipush (v := 123) hx hb d_Wo_mayBeShort_67 (by decide) ?_
          refine lv_icmp_eq (tgt := 84) hx hb d_Wo_mayBeShort_69 (by decide) (fun c_12 => ?_) (fun c_12 => ?_)
          · have h := lf_t h c_12
            exact hB_84 _ _ _ h hP hD hS (lv_sub hl [] rfl)
          · have h := lf_f h c_12
            refine lv_iload_n hx hb d_Wo_mayBeShort_72 rfl (lv_at hl 0 rfl) ?_
            refine lv_bipush (v := 125) hx hb d_Wo_mayBeShort_73 (by decide) ?_
            refine lv_icmp_eq (tgt := 84) hx hb d_Wo_mayBeShort_75 (by decide) (fun c_13 => ?_) (fun c_13 => ?_)
            · have h := lf_t h c_13
              exact hB_84 _ _ _ h hP hD hS (lv_sub hl [] rfl)
            · have h := lf_f h c_13
              refine lv_iload_n hx hb d_Wo_mayBeShort_78 rfl (lv_at hl 0 rfl) ?_
              refine lv_bipush (v := 126) hx hb d_Wo_mayBeShort_79 (by decide) ?_
              refine lv_icmp_ne (tgt := 88) hx hb d_Wo_mayBeShort_81 (by decide) (fun c_14 => ?_) (fun c_14 => ?_)
              · have h := lf_f h c_14
                refine lv_iconst (v := 0) hx hb d_Wo_mayBeShort_88 (by decide) ?_
                rw [hQ]
                have e1 : (0 : Int32) = r := Option.some.inj h
                exact W.zret (v := 0) hx hb hr rfl (fun t ht hW => ⟨⟨0, (), rfl, e1, by rw [ht]; exact hP, va_K.moved hW.alike hK, hD⟩, hS.F ht⟩) hS.2.2 d_Wo_mayBeShort_89
              · have h := lf_t h c_14
                exact hB_84 _ _ _ h hP hD hS (lv_sub hl [] rfl)
  have hB_36 : ∀ (y_0 : Int32) (H : Heap) (locs : List Loc) (ls : Array Slot), f_Wo_mayBeShort_36 K y_0 = some r → va_P (dC, dI) classes [] H → va_D A [] → va_S A s.heap H locs → lv_has ls 1 [(0, .int y_0)] → W p l e ({ frames := 0, cells := 0, slots := 0, locals := 0 }) s m ([.int p0] : List Value).toArray below meth c H locs 0 0 Q (F0 m 36 ls []) := by
    intro y_0 H locs ls h hP hD hS hl
    rw [f_Wo_mayBeShort_36] at h
    refine lv_iload_n hx hb d_Wo_mayBeShort_36 rfl (lv_at hl 0 rfl) ?_
    refine lv_bipush (v := 94) hx hb d_Wo_mayBeShort_37 (by decide) ?_
    refine lv_icmp_lt (tgt := 48) hx hb d_Wo_mayBeShort_39 (by decide) (fun c_7 => ?_) (fun c_7 => ?_)
    · have h := lf_t h c_7
      exact hB_48 y_0 _ _ _ h hP hD hS (lv_sub hl [0] rfl)
    · have h := lf_f h c_7
      refine lv_iload_n hx hb d_Wo_mayBeShort_42 rfl (lv_at hl 0 rfl) ?_
      refine lv_bipush (v := 96) hx hb d_Wo_mayBeShort_43 (by decide) ?_
      refine lv_icmp_le (tgt := 84) hx hb d_Wo_mayBeShort_45 (by decide) (fun c_8 => ?_) (fun c_8 => ?_)
      · have h := lf_t h c_8
        exact hB_84 _ _ _ h hP hD hS (lv_sub hl [] rfl)
      · have h := lf_f h c_8
        exact hB_48 y_0 _ _ _ h hP hD hS (lv_sub hl [0] rfl)
  have hB_24 : ∀ (y_0 : Int32) (H : Heap) (locs : List Loc) (ls : Array Slot), f_Wo_mayBeShort_24 K y_0 = some r → va_P (dC, dI) classes [] H → va_D A [] → va_S A s.heap H locs → lv_has ls 1 [(0, .int y_0)] → W p l e ({ frames := 0, cells := 0, slots := 0, locals := 0 }) s m ([.int p0] : List Value).toArray below meth c H locs 0 0 Q (F0 m 24 ls []) := by
    intro y_0 H locs ls h hP hD hS hl
    rw [f_Wo_mayBeShort_24] at h
    refine lv_iload_n hx hb d_Wo_mayBeShort_24 rfl (lv_at hl 0 rfl) ?_
    refine lv_bipush (v := 35) hx hb d_Wo_mayBeShort_25 (by decide) ?_
    refine lv_icmp_lt (tgt := 36) hx hb d_Wo_mayBeShort_27 (by decide) (fun c_5 => ?_) (fun c_5 => ?_)
    · have h := lf_t h c_5
      exact hB_36 y_0 _ _ _ h hP hD hS (lv_sub hl [0] rfl)
    · have h := lf_f h c_5
      refine lv_iload_n hx hb d_Wo_mayBeShort_30 rfl (lv_at hl 0 rfl) ?_
      refine lv_bipush (v := 41) hx hb d_Wo_mayBeShort_31 (by decide) ?_
      refine lv_icmp_le (tgt := 84) hx hb d_Wo_mayBeShort_33 (by decide) (fun c_6 => ?_) (fun c_6 => ?_)
      · have h := lf_t h c_6
        exact hB_84 _ _ _ h hP hD hS (lv_sub hl [] rfl)
      · have h := lf_f h c_6
        exact hB_36 y_0 _ _ _ h hP hD hS (lv_sub hl [0] rfl)
  have hB_12 : ∀ (y_0 : Int32) (H : Heap) (locs : List Loc) (ls : Array Slot), f_Wo_mayBeShort_12 K y_0 = some r → va_P (dC, dI) classes [] H → va_D A [] → va_S A s.heap H locs → lv_has ls 1 [(0, .int y_0)] → W p l e ({ frames := 0, cells := 0, slots := 0, locals := 0 }) s m ([.int p0] : List Value).toArray below meth c H locs 0 0 Q (F0 m 12 ls []) := by
    intro y_0 H locs ls h hP hD hS hl
    rw [f_Wo_mayBeShort_12] at h
    refine lv_iload_n hx hb d_Wo_mayBeShort_12 rfl (lv_at hl 0 rfl) ?_
    refine lv_bipush (v := 48) hx hb d_Wo_mayBeShort_13 (by decide) ?_
    refine lv_icmp_lt (tgt := 24) hx hb d_Wo_mayBeShort_15 (by decide) (fun c_3 => ?_) (fun c_3 => ?_)
    · have h := lf_t h c_3
      exact hB_24 y_0 _ _ _ h hP hD hS (lv_sub hl [0] rfl)
    · have h := lf_f h c_3
      refine lv_iload_n hx hb d_Wo_mayBeShort_18 rfl (lv_at hl 0 rfl) ?_
      refine lv_bipush (v := 57) hx hb d_Wo_mayBeShort_19 (by decide) ?_
      refine lv_icmp_le (tgt := 84) hx hb d_Wo_mayBeShort_21 (by decide) (fun c_4 => ?_) (fun c_4 => ?_)
      · have h := lf_t h c_4
        exact hB_84 _ _ _ h hP hD hS (lv_sub hl [] rfl)
      · have h := lf_f h c_4
        exact hB_24 y_0 _ _ _ h hP hD hS (lv_sub hl [0] rfl)
  rw [f_Wo_mayBeShort] at h
  refine lv_iload_n hx hb d_Wo_mayBeShort_0 rfl (lv_at hl 0 rfl) ?_
  refine lv_bipush (v := 65) hx hb d_Wo_mayBeShort_1 (by decide) ?_
  refine lv_icmp_lt (tgt := 12) hx hb d_Wo_mayBeShort_3 (by decide) (fun c_1 => ?_) (fun c_1 => ?_)
  · have h := lf_t h c_1
    exact hB_12 p0 _ _ _ h hP hD hS (lv_sub hl [0] rfl)
  · have h := lf_f h c_1
    refine lv_iload_n hx hb d_Wo_mayBeShort_6 rfl (lv_at hl 0 rfl) ?_
    refine lv_bipush (v := 90) hx hb d_Wo_mayBeShort_7 (by decide) ?_
    refine lv_icmp_le (tgt := 84) hx hb d_Wo_mayBeShort_9 (by decide) (fun c_2 => ?_) (fun c_2 => ?_)
    · have h := lf_t h c_2
      exact hB_84 _ _ _ h hP hD hS (lv_sub hl [] rfl)
    · have h := lf_f h c_2
      exact hB_12 p0 _ _ _ h hP hD hS (lv_sub hl [0] rfl)
set_option maxHeartbeats 4000000 in
set_option maxRecDepth 100000 in
theorem l_Wo_mayBeUnit (l : Launch) (dC : Nat → ClassId) (dI : Nat → Nat → Nat) {K : Nat} (sz : Nat) {p0 : Int32} {r : Int32} (h : f_Wo_mayBeUnit K p0 = some r) : Met l y_Wo_mayBeUnit (.code y_Wo_mayBeUnit b_Wo_mayBeUnit 2 (some .boolean) :: V_Vq) ({ frames := 0, cells := 0, slots := 0, locals := 0 }) (va_Pc [.int p0] (fun U => U.heap.size = sz ∧ at_ (dC, dI) (fun _ => True) [] [] U)) (va_Qi (fun (r_ : Int32) (u : Unit) => r_ = r) (fun (u : Unit) t => at_ (dC, dI) (va_A [] sz) [] [] t) (va_A [] sz)) 0 0 (va_A [] sz) := by
  refine Met.ofW (cc := b_Wo_mayBeUnit) (maxL := 2) (ret := (some .boolean)) (by decide) rfl ?_
  intro p e s m args below meth c s₁ B hml hv
  obtain ⟨rfl, hsz, hP, hK, hD0⟩ := hv
  have hx := B.exec
  have hb := B.bytes
  have hr := B.returns
  have hts0 := atoms_spec (ws := .code y_Wo_mayBeUnit b_Wo_mayBeUnit 2 (some .boolean) :: V_Vq) B.pre
  have hts : ∀ w ∈ V_Vq, w.before ([.int p0] : List Value).toArray s = true := fun w h => hts0 w (List.mem_cons_of_mem _ h)
  have hown : s.vm.findClass R_Wo = some m.cls := findClass_of_methodNamed B.named
  subst hsz
  have hD := hD0.self (sz := s.heap.size)
  generalize hAe : va_A [] s.heap.size = A at hD ⊢
  have hA : ∀ q : Nat, s.heap.size ≤ q → A q := fun q h => by rw [← hAe]; exact Or.inr h
  have hS : va_S A s.heap s.heap [] := va_S.rf
  have hP : va_P (dC, dI) classes [] s.heap := hP
  have hK : va_K (dC, dI) classes [] s := hK
  have hl := lv_entry ([.int p0]) (n := 2) (Nat.le_of_ble_eq_true rfl)
  rw [lg_entry_eq]
  generalize (lg_sl ([.int p0]) ++ List.replicate (2 - (lg_sl ([.int p0])).length) Slot.unset).toArray = ls at hl ⊢
  have hl : lv_has ls 2 [(0, .int p0)] := hl
  refine qabs (fun Q hQ => ?_)
  have hB_94 : ∀ (H : Heap) (locs : List Loc) (ls : Array Slot), f_Wo_mayBeUnit_94 K = some r → va_P (dC, dI) classes [] H → va_D A [] → va_S A s.heap H locs → lv_has ls 2 [] → W p l e ({ frames := 0, cells := 0, slots := 0, locals := 0 }) s m ([.int p0] : List Value).toArray below meth c H locs 0 0 Q (F0 m 94 ls []) := by
    intro  H locs ls h hP hD hS hl
    rw [f_Wo_mayBeUnit_94] at h
    refine lv_iconst (v := 1) hx hb d_Wo_mayBeUnit_94 (by decide) ?_
    refine lv_goto (tgt := 99) hx hb d_Wo_mayBeUnit_95 (by decide) ?_
    rw [hQ]
    have e1 : (1 : Int32) = r := Option.some.inj h
    exact W.zret (v := 1) hx hb hr rfl (fun t ht hW => ⟨⟨1, (), rfl, e1, by rw [ht]; exact hP, va_K.moved hW.alike hK, hD⟩, hS.F ht⟩) hS.2.2 d_Wo_mayBeUnit_99
  have hB_98 : ∀ (H : Heap) (locs : List Loc) (ls : Array Slot), f_Wo_mayBeUnit_98 K = some r → va_P (dC, dI) classes [] H → va_D A [] → va_S A s.heap H locs → lv_has ls 2 [] → W p l e ({ frames := 0, cells := 0, slots := 0, locals := 0 }) s m ([.int p0] : List Value).toArray below meth c H locs 0 0 Q (F0 m 98 ls []) := by
    intro  H locs ls h hP hD hS hl
    rw [f_Wo_mayBeUnit_98] at h
    refine lv_iconst (v := 0) hx hb d_Wo_mayBeUnit_98 (by decide) ?_
    rw [hQ]
    have e1 : (0 : Int32) = r := Option.some.inj h
    exact W.zret (v := 0) hx hb hr rfl (fun t ht hW => ⟨⟨0, (), rfl, e1, by rw [ht]; exact hP, va_K.moved hW.alike hK, hD⟩, hS.F ht⟩) hS.2.2 d_Wo_mayBeUnit_99
  have hB_65 : ∀ (y_0 : Int32) (z_0 : Int32) (H : Heap) (locs : List Loc) (ls : Array Slot), f_Wo_mayBeUnit_65 K y_0 z_0 = some r → va_P (dC, dI) classes [] H → va_D A [] → va_S A s.heap H locs → lv_has ls 2 [(0, .int y_0)] → W p l e ({ frames := 0, cells := 0, slots := 0, locals := 0 }) s m ([.int p0] : List Value).toArray below meth c H locs 0 0 Q (F0 m 65 ls [.int z_0]) := by
    intro y_0 z_0 H locs ls h hP hD hS hl
    rw [f_Wo_mayBeUnit_65] at h
    refine lv_istore_n (lv' := [(1, .int z_0), (0, .int y_0)]) hx hb d_Wo_mayBeUnit_65 rfl hl (by decide) rfl (fun ls hl => ?_)
    refine lv_iload_n hx hb d_Wo_mayBeUnit_66 rfl (lv_at hl 1 rfl) ?_
    refine lv_bipush (v := 32) hx hb d_Wo_mayBeUnit_67 (by decide) ?_
    refine lv_icmp_lt (tgt := 98) hx hb d_Wo_mayBeUnit_69 (by decide) (fun c_11 => ?_) (fun c_11 => ?_)
    · have h := lf_t h c_11
      exact hB_98 _ _ _ h hP hD hS (lv_sub hl [] rfl)
    · have h := lf_f h c_11
      refine lv_iload_n hx hb d_Wo_mayBeUnit_72 rfl (lv_at hl 1 rfl) ?_
      refine lv_ldc (v := 65533) hx hb hown (hts _ (u_Vq_Wo _ k_Wo_14)) d_Wo_mayBeUnit_73 ?_
      refine lv_icmp_gt (tgt := 98) hx hb d_Wo_mayBeUnit_75 (by decide) (fun c_12 => ?_) (fun c_12 => ?_)
      · have h := lf_t h c_12
        exact hB_98 _ _ _ h hP hD hS (lv_sub hl [] rfl)
      · have h := lf_f h c_12
        refine lv_iload_n hx hb d_Wo_mayBeUnit_78 rfl (lv_at hl 0 rfl) ?_
        refine lv_if_ne (tgt := 98) hx hb d_Wo_mayBeUnit_79 (by decide) (fun c_13 => ?_) (fun c_13 => ?_)
        · have h := lf_f h c_13
          exact hB_98 _ _ _ h hP hD hS (lv_sub hl [] rfl)
        · have h := lf_t h c_13
          refine lv_iload_n hx hb d_Wo_mayBeUnit_82 rfl (lv_at hl 1 rfl) ?_
          refine lv_ldc (v := 55296) hx hb hown (hts _ (u_Vq_Wo _ k_Wo_15)) d_Wo_mayBeUnit_83 ?_
          refine lv_icmp_lt (tgt := 94) hx hb d_Wo_mayBeUnit_85 (by decide) (fun c_14 => ?_) (fun c_14 => ?_)
          · have h := lf_t h c_14
            exact hB_94 _ _ _ h hP hD hS (lv_sub hl [] rfl)
          · have h := lf_f h c_14
            refine lv_iload_n hx hb d_Wo_mayBeUnit_88 rfl (lv_at hl 1 rfl) ?_
            refine lv_ldc (v := 57343) hx hb hown (hts _ (u_Vq_Wo _ k_Wo_16)) d_Wo_mayBeUnit_89 ?_
            refine lv_icmp_le (tgt := 98) hx hb d_Wo_mayBeUnit_91 (by decide) (fun c_15 => ?_) (fun c_15 => ?_)
            · have h := lf_t h c_15
              exact hB_98 _ _ _ h hP hD hS (lv_sub hl [] rfl)
            · have h := lf_f h c_15
              exact hB_94 _ _ _ h hP hD hS (lv_sub hl [] rfl)
  have hB_60 : ∀ (y_0 : Int32) (H : Heap) (locs : List Loc) (ls : Array Slot), f_Wo_mayBeUnit_60 K y_0 = some r → va_P (dC, dI) classes [] H → va_D A [] → va_S A s.heap H locs → lv_has ls 2 [(0, .int y_0)] → W p l e ({ frames := 0, cells := 0, slots := 0, locals := 0 }) s m ([.int p0] : List Value).toArray below meth c H locs 0 0 Q (F0 m 60 ls []) := by
    intro y_0 H locs ls h hP hD hS hl
    rw [f_Wo_mayBeUnit_60] at h
    refine lv_iconst (v := 1) hx hb d_Wo_mayBeUnit_60 (by decide) ?_
    refine lv_goto (tgt := 65) hx hb d_Wo_mayBeUnit_61 (by decide) ?_
    exact hB_65 y_0 1 _ _ _ h hP hD hS (lv_sub hl [0] rfl)
  rw [f_Wo_mayBeUnit] at h
  refine lv_iload_n hx hb d_Wo_mayBeUnit_0 rfl (lv_at hl 0 rfl) ?_
  refine lv_bipush (v := 34) hx hb d_Wo_mayBeUnit_1 (by decide) ?_
  refine lv_icmp_eq (tgt := 60) hx hb d_Wo_mayBeUnit_3 (by decide) (fun c_1 => ?_) (fun c_1 => ?_)
  · have h := lf_t h c_1
    exact hB_60 p0 _ _ _ h hP hD hS (lv_sub hl [0] rfl)
  · have h := lf_f h c_1
    refine lv_iload_n hx hb d_Wo_mayBeUnit_6 rfl (lv_at hl 0 rfl) ?_
    refine lv_bipush (v := 42) hx hb d_Wo_mayBeUnit_7 (by decide) ?_
    refine lv_icmp_eq (tgt := 60) hx hb d_Wo_mayBeUnit_9 (by decide) (fun c_2 => ?_) (fun c_2 => ?_)
    · have h := lf_t h c_2
      exact hB_60 p0 _ _ _ h hP hD hS (lv_sub hl [0] rfl)
    · have h := lf_f h c_2
      refine lv_iload_n hx hb d_Wo_mayBeUnit_12 rfl (lv_at hl 0 rfl) ?_
      refine lv_bipush (v := 47) hx hb d_Wo_mayBeUnit_13 (by decide) ?_
      refine lv_icmp_eq (tgt := 60) hx hb d_Wo_mayBeUnit_15 (by decide) (fun c_3 => ?_) (fun c_3 => ?_)
      · have h := lf_t h c_3
        exact hB_60 p0 _ _ _ h hP hD hS (lv_sub hl [0] rfl)
      · have h := lf_f h c_3
        refine lv_iload_n hx hb d_Wo_mayBeUnit_18 rfl (lv_at hl 0 rfl) ?_
        refine lv_bipush (v := 58) hx hb d_Wo_mayBeUnit_19 (by decide) ?_
        refine lv_icmp_eq (tgt := 60) hx hb d_Wo_mayBeUnit_21 (by decide) (fun c_4 => ?_) (fun c_4 => ?_)
        · have h := lf_t h c_4
          exact hB_60 p0 _ _ _ h hP hD hS (lv_sub hl [0] rfl)
        · have h := lf_f h c_4
          refine lv_iload_n hx hb d_Wo_mayBeUnit_24 rfl (lv_at hl 0 rfl) ?_
          refine lv_bipush (v := 60) hx hb d_Wo_mayBeUnit_25 (by decide) ?_
          refine lv_icmp_eq (tgt := 60) hx hb d_Wo_mayBeUnit_27 (by decide) (fun c_5 => ?_) (fun c_5 => ?_)
          · have h := lf_t h c_5
            exact hB_60 p0 _ _ _ h hP hD hS (lv_sub hl [0] rfl)
          · have h := lf_f h c_5
            refine lv_iload_n hx hb d_Wo_mayBeUnit_30 rfl (lv_at hl 0 rfl) ?_
            refine lv_bipush (v := 62) hx hb d_Wo_mayBeUnit_31 (by decide) ?_
            refine lv_icmp_eq (tgt := 60) hx hb d_Wo_mayBeUnit_33 (by decide) (fun c_6 => ?_) (fun c_6 => ?_)
            · have h := lf_t h c_6
              exact hB_60 p0 _ _ _ h hP hD hS (lv_sub hl [0] rfl)
            · have h := lf_f h c_6
              refine lv_iload_n hx hb d_Wo_mayBeUnit_36 rfl (lv_at hl 0 rfl) ?_
              refine lv_bipush (v := 63) hx hb d_Wo_mayBeUnit_37 (by decide) ?_
              refine lv_icmp_eq (tgt := 60) hx hb d_Wo_mayBeUnit_39 (by decide) (fun c_7 => ?_) (fun c_7 => ?_)
              · have h := lf_t h c_7
                exact hB_60 p0 _ _ _ h hP hD hS (lv_sub hl [0] rfl)
              · have h := lf_f h c_7
                refine lv_iload_n hx hb d_Wo_mayBeUnit_42 rfl (lv_at hl 0 rfl) ?_
                refine lv_bipush (v := 92) hx hb d_Wo_mayBeUnit_43 (by decide) ?_
                refine lv_icmp_eq (tgt := 60) hx hb d_Wo_mayBeUnit_45 (by decide) (fun c_8 => ?_) (fun c_8 => ?_)
                · have h := lf_t h c_8
                  exact hB_60 p0 _ _ _ h hP hD hS (lv_sub hl [0] rfl)
                · have h := lf_f h c_8
                  refine lv_iload_n hx hb d_Wo_mayBeUnit_48 rfl (lv_at hl 0 rfl) ?_
                  refine lv_bipush (v := 124) hx hb d_Wo_mayBeUnit_49 (by decide) ?_
                  refine lv_icmp_eq (tgt := 60) hx hb d_Wo_mayBeUnit_51 (by decide) (fun c_9 => ?_) (fun c_9 => ?_)
                  · have h := lf_t h c_9
                    exact hB_60 p0 _ _ _ h hP hD hS (lv_sub hl [0] rfl)
                  · have h := lf_f h c_9
                    refine lv_iload_n hx hb d_Wo_mayBeUnit_54 rfl (lv_at hl 0 rfl) ?_
                    refine lv_bipush (v := 127) hx hb d_Wo_mayBeUnit_55 (by decide) ?_
                    refine lv_icmp_ne (tgt := 64) hx hb d_Wo_mayBeUnit_57 (by decide) (fun c_10 => ?_) (fun c_10 => ?_)
                    · have h := lf_f h c_10
                      refine lv_iconst (v := 0) hx hb d_Wo_mayBeUnit_64 (by decide) ?_
                      exact hB_65 p0 0 _ _ _ h hP hD hS (lv_sub hl [0] rfl)
                    · have h := lf_t h c_10
                      exact hB_60 p0 _ _ _ h hP hD hS (lv_sub hl [0] rfl)
set_option maxHeartbeats 4000000 in
set_option maxRecDepth 100000 in
theorem l_Dk_one (l : Launch) (dC : Nat → ClassId) (dI : Nat → Nat → Nat) {K : Nat} {M : CA} {E : (Nat → Prop) → State → Prop} (X : ly_X l dC dI K M E) (sz : Nat) {Y : CT} {G : CG} {S S' : CS} {p0 : Int32} {r : Int32} (h : f_Dk_one K G S p0 = some (r, S')) : Met l y_Dk_one (.code y_Dk_one cb_Dk_one 2 (some .int) :: V_Vq) ({ frames := 0, cells := 0, slots := 0, locals := 0 }) (va_Pc [.ref M.o_Dk, .int p0] (fun U => U.heap.size = sz ∧ at_ (dC, dI) (fun _ => True) (wV M Y G S) (tV M) U ∧ E (va_A (wV M Y G S) sz) U)) (va_Qi (fun (r_ : Int32) (u : Unit) => r_ = r) (fun (u : Unit) t => at_ (dC, dI) (va_A (wV M Y G S) sz) (wV M Y G S') (tV M) t) (va_A (wV M Y G S) sz)) 0 0 (va_A (wV M Y G S) sz) := by
  refine Met.ofW (cc := cb_Dk_one) (maxL := 2) (ret := (some .int)) (by decide) rfl ?_
  intro p e s m args below meth c s₁ B hml hv
  obtain ⟨rfl, hsz, ⟨hP, hK, hD0⟩, hE⟩ := hv
  have hx := B.exec
  have hb := B.bytes
  have hr := B.returns
  have hts0 := atoms_spec (ws := .code y_Dk_one cb_Dk_one 2 (some .int) :: V_Vq) B.pre
  have hts : ∀ w ∈ V_Vq, w.before ([.ref M.o_Dk, .int p0] : List Value).toArray s = true := fun w h => hts0 w (List.mem_cons_of_mem _ h)
  have hown : s.vm.findClass R_Dk = some m.cls := findClass_of_methodNamed B.named
  subst hsz
  have hD := hD0.self (sz := s.heap.size)
  generalize hAe : va_A (wV M Y G S) s.heap.size = A at hD hE ⊢
  have hA : ∀ q : Nat, s.heap.size ≤ q → A q := fun q h => by rw [← hAe]; exact Or.inr h
  have hS : va_S A s.heap s.heap [] := va_S.rf
  have hP : va_P (dC, dI) classes (wV M Y G S) s.heap := hP
  have hK : va_K (dC, dI) classes (tV M) s := hK
  have hEw : ∀ (H : Heap) (locs : List Loc), va_S A s.heap H locs → ∀ U : State, U.heap = H → s.WarmedH U.vm → E A U := fun H locs hS U hU hW => X.kept A s U H locs hE hS hU hW
  have hl := lv_entry ([.ref M.o_Dk, .int p0]) (n := 2) (Nat.le_of_ble_eq_true rfl)
  rw [lg_entry_eq]
  generalize (lg_sl ([.ref M.o_Dk, .int p0]) ++ List.replicate (2 - (lg_sl ([.ref M.o_Dk, .int p0])).length) Slot.unset).toArray = ls at hl ⊢
  have hl : lv_has ls 2 [(0, .ref M.o_Dk), (1, .int p0)] := hl
  refine qabs (fun Q hQ => ?_)
  have hB_26 : ∀ (S : CS) (H : Heap) (locs : List Loc) (ls : Array Slot), f_Dk_one_26 K G S = some (r, S') → va_P (dC, dI) classes (wV M Y G S) H → va_D A (wV M Y G S) → va_S A s.heap H locs → lv_has ls 2 [] → W p l e ({ frames := 0, cells := 0, slots := 0, locals := 0 }) s m ([.ref M.o_Dk, .int p0] : List Value).toArray below meth c H locs 0 0 Q (F0 m 26 ls []) := by
    intro S H locs ls h hP hD hS hl
    rw [f_Dk_one_26] at h
    refine lv_iconst (v := 0) hx hb d_Dk_one_26 (by decide) ?_
    rw [hQ]
    have e1 : (0 : Int32) = r := congrArg Prod.fst (Option.some.inj h)
    have e2 : S = S' := congrArg Prod.snd (Option.some.inj h)
    have hP := ly_newP e2.symm hP
    have hD := ly_newD e2.symm hD
    exact W.iret (v := 0) hx hb hr (fun t ht hW => ⟨⟨0, (), rfl, e1, by rw [ht]; exact hP, va_K.moved hW.alike hK, hD⟩, hS.F ht⟩) hS.2.2 d_Dk_one_27
  rw [f_Dk_one] at h
  refine lv_iload_n hx hb d_Dk_one_0 rfl (lv_at hl 1 rfl) ?_
  refine lv_if_lt (tgt := 26) hx hb d_Dk_one_1 (by decide) (fun c_1 => ?_) (fun c_1 => ?_)
  · have h := lf_t h c_1
    exact hB_26 S _ _ _ h hP hD hS (lv_sub hl [] rfl)
  · have h := lf_f h c_1
    refine lv_iload_n hx hb d_Dk_one_4 rfl (lv_at hl 1 rfl) ?_
    refine lv_aload_n hx hb d_Dk_one_5 rfl (lv_at hl 0 rfl) ?_
    refine va_get (D := (dC, dI)) (ci := 0) (v := .ref M.a_Dk_bytes) (C := R_Dk) (T := F_Dk) (N := 3) hx hb hts (fun w h => u_Vq_Dk w (i_Dk w h)) hown hK hP 1 rfl rfl 1 (by decide) (hts _ (u_Vq_Dk _ k_Dk_6)) (fun _ h9 => h9) rfl d_Dk_one_6 ?_
    refine va_alen (v := nI (512 * G.n)) hx hb hK hP 12 0 rfl rfl rfl d_Dk_one_9 ?_
    refine lv_icmp_ge (tgt := 26) hx hb d_Dk_one_10 (by decide) (fun c_2 => ?_) (fun c_2 => ?_)
    · have h := lf_t h c_2
      exact hB_26 S _ _ _ h hP hD hS (lv_sub hl [] rfl)
    · have h := lf_f h c_2
      refine lv_aload_n hx hb d_Dk_one_13 rfl (lv_at hl 0 rfl) ?_
      refine va_get (D := (dC, dI)) (ci := 0) (v := .ref M.a_Dk_bytes) (C := R_Dk) (T := F_Dk) (N := 3) hx hb hts (fun w h => u_Vq_Dk w (i_Dk w h)) hown hK hP 1 rfl rfl 1 (by decide) (hts _ (u_Vq_Dk _ k_Dk_6)) (fun _ h9 => h9) rfl d_Dk_one_14 ?_
      refine lv_iload_n hx hb d_Dk_one_17 rfl (lv_at hl 1 rfl) ?_
      obtain ⟨g_3, h⟩ := lf_gE h
      refine va_bald hx hb hK hP 12 0 rfl rfl g_3 d_Dk_one_18 ?_
      refine lv_sipush (v := 255) hx hb d_Dk_one_19 (by decide) ?_
      refine lv_iand hx hb d_Dk_one_22 ?_
      refine lv_goto (tgt := 27) hx hb d_Dk_one_23 (by decide) ?_
      rw [hQ]
      have e1 : ((S.w_Dk_bytes p0.toNatClampNeg) &&& 255) = r := congrArg Prod.fst (Option.some.inj h)
      have e2 : S = S' := congrArg Prod.snd (Option.some.inj h)
      have hP := ly_newP e2.symm hP
      have hD := ly_newD e2.symm hD
      exact W.iret (v := ((S.w_Dk_bytes p0.toNatClampNeg) &&& 255)) hx hb hr (fun t ht hW => ⟨⟨((S.w_Dk_bytes p0.toNatClampNeg) &&& 255), (), rfl, e1, by rw [ht]; exact hP, va_K.moved hW.alike hK, hD⟩, hS.F ht⟩) hS.2.2 d_Dk_one_27
set_option maxHeartbeats 4000000 in
set_option maxRecDepth 100000 in
theorem l_Wo_isShortName (l : Launch) (dC : Nat → ClassId) (dI : Nat → Nat → Nat) {K : Nat} {M : CA} {E : (Nat → Prop) → State → Prop} (X : ly_X l dC dI K M E) (sz : Nat) {Y : CT} {G : CG} {S S' : CS} {p1 : Int32} {p2 : Int32} {r : Int32} (h : f_Wo_isShortName K G S p1 p2 = some (r, S')) : Met l y_Wo_isShortName (.code y_Wo_isShortName cb_Wo_isShortName 6 (some .boolean) :: V_Vq) ({ frames := 1, cells := 0, slots := 0, locals := 21 }) (va_Pc [.ref M.o_Dk, .int p1, .int p2] (fun U => U.heap.size = sz ∧ at_ (dC, dI) (fun _ => True) (wV M Y G S) (tV M) U ∧ E (va_A (wV M Y G S) sz) U)) (va_Qi (fun (r_ : Int32) (u : Unit) => r_ = r) (fun (u : Unit) t => at_ (dC, dI) (va_A (wV M Y G S) sz) (wV M Y G S') (tV M) t) (va_A (wV M Y G S) sz)) 0 0 (va_A (wV M Y G S) sz) := by
  refine Met.ofW (cc := cb_Wo_isShortName) (maxL := 6) (ret := (some .boolean)) (by decide) rfl ?_
  intro p e s m args below meth c s₁ B hml hv
  obtain ⟨rfl, hsz, ⟨hP, hK, hD0⟩, hE⟩ := hv
  have hx := B.exec
  have hb := B.bytes
  have hr := B.returns
  have hts0 := atoms_spec (ws := .code y_Wo_isShortName cb_Wo_isShortName 6 (some .boolean) :: V_Vq) B.pre
  have hts : ∀ w ∈ V_Vq, w.before ([.ref M.o_Dk, .int p1, .int p2] : List Value).toArray s = true := fun w h => hts0 w (List.mem_cons_of_mem _ h)
  have hown : s.vm.findClass R_Wo = some m.cls := findClass_of_methodNamed B.named
  subst hsz
  have hD := hD0.self (sz := s.heap.size)
  generalize hAe : va_A (wV M Y G S) s.heap.size = A at hD hE ⊢
  have hA : ∀ q : Nat, s.heap.size ≤ q → A q := fun q h => by rw [← hAe]; exact Or.inr h
  have hS : va_S A s.heap s.heap [] := va_S.rf
  have hP : va_P (dC, dI) classes (wV M Y G S) s.heap := hP
  have hK : va_K (dC, dI) classes (tV M) s := hK
  have hEw : ∀ (H : Heap) (locs : List Loc), va_S A s.heap H locs → ∀ U : State, U.heap = H → s.WarmedH U.vm → E A U := fun H locs hS U hU hW => X.kept A s U H locs hE hS hU hW
  have hl := lv_entry ([.ref M.o_Dk, .int p1, .int p2]) (n := 6) (Nat.le_of_ble_eq_true rfl)
  rw [lg_entry_eq]
  generalize (lg_sl ([.ref M.o_Dk, .int p1, .int p2]) ++ List.replicate (6 - (lg_sl ([.ref M.o_Dk, .int p1, .int p2])).length) Slot.unset).toArray = ls at hl ⊢
  have hl : lv_has ls 6 [(0, .ref M.o_Dk), (1, .int p1), (2, .int p2)] := hl
  refine qabs (fun Q hQ => ?_)
  have hB_85 : ∀ (rec_17 : Int32 → Int32 → Int32 → Int32 → CS → Option (Int32 × CS)) (hr_17 : ∀ (y_1 : Int32) (y_2 : Int32) (y_3 : Int32) (y_4 : Int32) (S : CS) (H : Heap) (locs : List Loc) (ls : Array Slot), rec_17 y_1 y_2 y_3 y_4 S = some (r, S') → va_P (dC, dI) classes (wV M Y G S) H → va_D A (wV M Y G S) → va_S A s.heap H locs → lv_has ls 6 [(0, .ref M.o_Dk), (1, .int y_1), (2, .int y_2), (3, .int y_3), (4, .int y_4)] → W p l e ({ frames := 1, cells := 0, slots := 0, locals := 21 }) s m ([.ref M.o_Dk, .int p1, .int p2] : List Value).toArray below meth c H locs 0 0 Q (F0 m 17 ls [])), ∀ (y_1 : Int32) (y_2 : Int32) (y_3 : Int32) (y_4 : Int32) (S : CS) (H : Heap) (locs : List Loc) (ls : Array Slot), f_Wo_isShortName_85 K G rec_17 y_1 y_2 y_3 y_4 S = some (r, S') → va_P (dC, dI) classes (wV M Y G S) H → va_D A (wV M Y G S) → va_S A s.heap H locs → lv_has ls 6 [(0, .ref M.o_Dk), (1, .int y_1), (2, .int y_2), (3, .int y_3), (4, .int y_4)] → W p l e ({ frames := 1, cells := 0, slots := 0, locals := 21 }) s m ([.ref M.o_Dk, .int p1, .int p2] : List Value).toArray below meth c H locs 0 0 Q (F0 m 85 ls []) := by
    intro rec_17 hr_17 y_1 y_2 y_3 y_4 S H locs ls h hP hD hS hl
    rw [f_Wo_isShortName_85] at h
    obtain ⟨x_12, ex_12, h⟩ := lf_lX h
    refine lv_iinc (v := x_12) (lv' := [(4, .int x_12), (0, .ref M.o_Dk), (1, .int y_1), (2, .int y_2), (3, .int y_3)]) hx hb d_Wo_isShortName_85 hl (k := 4) rfl (by rw [ex_12]; rfl) (by decide) rfl (fun ls hl => ?_)
    refine lv_goto (tgt := 17) hx hb d_Wo_isShortName_88 (by decide) ?_
    exact hr_17 y_1 y_2 y_3 x_12 S _ _ _ h hP hD hS (lv_sub hl [1, 2, 3, 4, 0] rfl)
  have hB_67 : ∀ (rec_17 : Int32 → Int32 → Int32 → Int32 → CS → Option (Int32 × CS)) (hr_17 : ∀ (y_1 : Int32) (y_2 : Int32) (y_3 : Int32) (y_4 : Int32) (S : CS) (H : Heap) (locs : List Loc) (ls : Array Slot), rec_17 y_1 y_2 y_3 y_4 S = some (r, S') → va_P (dC, dI) classes (wV M Y G S) H → va_D A (wV M Y G S) → va_S A s.heap H locs → lv_has ls 6 [(0, .ref M.o_Dk), (1, .int y_1), (2, .int y_2), (3, .int y_3), (4, .int y_4)] → W p l e ({ frames := 1, cells := 0, slots := 0, locals := 21 }) s m ([.ref M.o_Dk, .int p1, .int p2] : List Value).toArray below meth c H locs 0 0 Q (F0 m 17 ls [])), ∀ (y_1 : Int32) (y_2 : Int32) (y_4 : Int32) (z_0 : Int32) (S : CS) (H : Heap) (locs : List Loc) (ls : Array Slot), f_Wo_isShortName_67 K G rec_17 y_1 y_2 y_4 z_0 S = some (r, S') → va_P (dC, dI) classes (wV M Y G S) H → va_D A (wV M Y G S) → va_S A s.heap H locs → lv_has ls 6 [(0, .ref M.o_Dk), (1, .int y_1), (2, .int y_2), (4, .int y_4)] → W p l e ({ frames := 1, cells := 0, slots := 0, locals := 21 }) s m ([.ref M.o_Dk, .int p1, .int p2] : List Value).toArray below meth c H locs 0 0 Q (F0 m 67 ls [.int z_0]) := by
    intro rec_17 hr_17 y_1 y_2 y_4 z_0 S H locs ls h hP hD hS hl
    rw [f_Wo_isShortName_67] at h
    refine lv_istore_n (lv' := [(3, .int z_0), (0, .ref M.o_Dk), (1, .int y_1), (2, .int y_2), (4, .int y_4)]) hx hb d_Wo_isShortName_67 rfl hl (by decide) rfl (fun ls hl => ?_)
    refine lv_goto (tgt := 85) hx hb d_Wo_isShortName_68 (by decide) ?_
    exact hB_85 _ hr_17 y_1 y_2 z_0 y_4 S _ _ _ h hP hD hS (lv_sub hl [1, 2, 3, 0, 4] rfl)
  have hB_83 : ∀ (S : CS) (H : Heap) (locs : List Loc) (ls : Array Slot), f_Wo_isShortName_83 K G S = some (r, S') → va_P (dC, dI) classes (wV M Y G S) H → va_D A (wV M Y G S) → va_S A s.heap H locs → lv_has ls 6 [] → W p l e ({ frames := 1, cells := 0, slots := 0, locals := 21 }) s m ([.ref M.o_Dk, .int p1, .int p2] : List Value).toArray below meth c H locs 0 0 Q (F0 m 83 ls []) := by
    intro S H locs ls h hP hD hS hl
    rw [f_Wo_isShortName_83] at h
    refine lv_iconst (v := 0) hx hb d_Wo_isShortName_83 (by decide) ?_
    rw [hQ]
    have e1 : (0 : Int32) = r := congrArg Prod.fst (Option.some.inj h)
    have e2 : S = S' := congrArg Prod.snd (Option.some.inj h)
    have hP := ly_newP e2.symm hP
    have hD := ly_newD e2.symm hD
    exact W.zret (v := 0) hx hb hr rfl (fun t ht hW => ⟨⟨0, (), rfl, e1, by rw [ht]; exact hP, va_K.moved hW.alike hK, hD⟩, hS.F ht⟩) hS.2.2 d_Wo_isShortName_84
  have hB_50 : ∀ (rec_17 : Int32 → Int32 → Int32 → Int32 → CS → Option (Int32 × CS)) (hr_17 : ∀ (y_1 : Int32) (y_2 : Int32) (y_3 : Int32) (y_4 : Int32) (S : CS) (H : Heap) (locs : List Loc) (ls : Array Slot), rec_17 y_1 y_2 y_3 y_4 S = some (r, S') → va_P (dC, dI) classes (wV M Y G S) H → va_D A (wV M Y G S) → va_S A s.heap H locs → lv_has ls 6 [(0, .ref M.o_Dk), (1, .int y_1), (2, .int y_2), (3, .int y_3), (4, .int y_4)] → W p l e ({ frames := 1, cells := 0, slots := 0, locals := 21 }) s m ([.ref M.o_Dk, .int p1, .int p2] : List Value).toArray below meth c H locs 0 0 Q (F0 m 17 ls [])), ∀ (y_1 : Int32) (y_2 : Int32) (y_4 : Int32) (y_5 : Int32) (z_0 : Int32) (S : CS) (H : Heap) (locs : List Loc) (ls : Array Slot), f_Wo_isShortName_50 K G rec_17 y_1 y_2 y_4 y_5 z_0 S = some (r, S') → va_P (dC, dI) classes (wV M Y G S) H → va_D A (wV M Y G S) → va_S A s.heap H locs → lv_has ls 6 [(0, .ref M.o_Dk), (1, .int y_1), (2, .int y_2), (4, .int y_4), (5, .int y_5)] → W p l e ({ frames := 1, cells := 0, slots := 0, locals := 21 }) s m ([.ref M.o_Dk, .int p1, .int p2] : List Value).toArray below meth c H locs 0 0 Q (F0 m 50 ls [.int z_0]) := by
    intro rec_17 hr_17 y_1 y_2 y_4 y_5 z_0 S H locs ls h hP hD hS hl
    rw [f_Wo_isShortName_50] at h
    refine lv_istore_n (lv' := [(3, .int z_0), (0, .ref M.o_Dk), (1, .int y_1), (2, .int y_2), (4, .int y_4), (5, .int y_5)]) hx hb d_Wo_isShortName_50 rfl hl (by decide) rfl (fun ls hl => ?_)
    refine lv_iload hx hb d_Wo_isShortName_51 (lv_at hl 5 rfl) ?_
    refine lv_bipush (v := 32) hx hb d_Wo_isShortName_53 (by decide) ?_
    refine lv_icmp_ne (tgt := 71) hx hb d_Wo_isShortName_55 (by decide) (fun c_7 => ?_) (fun c_7 => ?_)
    · have h := lf_f h c_7
      refine lv_iload_n hx hb d_Wo_isShortName_71 rfl (lv_at hl 0 rfl) ?_
      refine lv_if_ne (tgt := 83) hx hb d_Wo_isShortName_72 (by decide) (fun c_8 => ?_) (fun c_8 => ?_)
      · have h := lf_f h c_8
        exact hB_83 S _ _ _ h hP hD hS (lv_sub hl [] rfl)
      · have h := lf_t h c_8
        refine lv_iload hx hb d_Wo_isShortName_75 (lv_at hl 5 rfl) ?_
        obtain ⟨r_9, hc_9, h⟩ := lf_bE h
        have hFc := lx_free0 hS hA
        refine va_calli (va_runS (As := [.int y_5]) (rest := []) ⟨hx, hb, hml, hown, hts⟩ (l_Wo_mayBeShort l dC dI  _ hc_9) (va_cwS 1 hts (gwS good_Vq (u_Vq_Wo _ k_Wo_4) (u_Vq_Wo _ k_Wo_5) (u_Vq_Wo _ k_Wo_0) (wcs (u_Vq_Wo _ k_Wo_6) (fun _ h => h))) rfl rfl rfl (by decide +kernel) ⟨Nat.le_of_ble_eq_true rfl, Nat.le_of_ble_eq_true rfl⟩) (ps_of (W := []) (tys := []) (hP.sub (ws' := []) [] rfl) (hK.sub [] rfl) (hD.sub (ws' := []) [] (by decide) rfl)) rfl rfl hl.1 rfl (lv_room (Nat.le_of_ble_eq_true rfl)) d_Wo_isShortName_77 ⟨by decide, by decide⟩) hS (fun q _ h => hFc q h) hFc (fun r_ u t H locs ht hvm hw hB hz1 hk1 hS => ?_)
        rw [hw]
        have hP := lx_stat (A := A) hP hk1
        refine lv_if_ne (tgt := 85) hx hb d_Wo_isShortName_80 (by decide) (fun c_10 => ?_) (fun c_10 => ?_)
        · have h := lf_f h c_10
          exact hB_85 _ hr_17 y_1 y_2 z_0 y_4 S _ _ _ h hP hD hS (lv_sub hl [1, 2, 3, 0, 4] rfl)
        · have h := lf_t h c_10
          exact hB_83 S _ _ _ h hP hD hS (lv_sub hl [] rfl)
    · have h := lf_t h c_7
      refine lv_iload_n hx hb d_Wo_isShortName_58 rfl (lv_at hl 3 rfl) ?_
      refine lv_if_ne (tgt := 66) hx hb d_Wo_isShortName_59 (by decide) (fun c_11 => ?_) (fun c_11 => ?_)
      · have h := lf_f h c_11
        refine lv_iconst (v := 0) hx hb d_Wo_isShortName_66 (by decide) ?_
        exact hB_67 _ hr_17 y_1 y_2 y_4 0 S _ _ _ h hP hD hS (lv_sub hl [1, 2, 3, 4] rfl)
      · have h := lf_t h c_11
        refine lv_iconst (v := 1) hx hb d_Wo_isShortName_62 (by decide) ?_
        refine lv_goto (tgt := 67) hx hb d_Wo_isShortName_63 (by decide) ?_
        exact hB_67 _ hr_17 y_1 y_2 y_4 1 S _ _ _ h hP hD hS (lv_sub hl [1, 2, 3, 4] rfl)
  have hB_49 : ∀ (rec_17 : Int32 → Int32 → Int32 → Int32 → CS → Option (Int32 × CS)) (hr_17 : ∀ (y_1 : Int32) (y_2 : Int32) (y_3 : Int32) (y_4 : Int32) (S : CS) (H : Heap) (locs : List Loc) (ls : Array Slot), rec_17 y_1 y_2 y_3 y_4 S = some (r, S') → va_P (dC, dI) classes (wV M Y G S) H → va_D A (wV M Y G S) → va_S A s.heap H locs → lv_has ls 6 [(0, .ref M.o_Dk), (1, .int y_1), (2, .int y_2), (3, .int y_3), (4, .int y_4)] → W p l e ({ frames := 1, cells := 0, slots := 0, locals := 21 }) s m ([.ref M.o_Dk, .int p1, .int p2] : List Value).toArray below meth c H locs 0 0 Q (F0 m 17 ls [])), ∀ (y_1 : Int32) (y_2 : Int32) (y_4 : Int32) (y_5 : Int32) (S : CS) (H : Heap) (locs : List Loc) (ls : Array Slot), f_Wo_isShortName_49 K G rec_17 y_1 y_2 y_4 y_5 S = some (r, S') → va_P (dC, dI) classes (wV M Y G S) H → va_D A (wV M Y G S) → va_S A s.heap H locs → lv_has ls 6 [(0, .ref M.o_Dk), (1, .int y_1), (2, .int y_2), (4, .int y_4), (5, .int y_5)] → W p l e ({ frames := 1, cells := 0, slots := 0, locals := 21 }) s m ([.ref M.o_Dk, .int p1, .int p2] : List Value).toArray below meth c H locs 0 0 Q (F0 m 49 ls []) := by
    intro rec_17 hr_17 y_1 y_2 y_4 y_5 S H locs ls h hP hD hS hl
    rw [f_Wo_isShortName_49] at h
    refine lv_iconst (v := 0) hx hb d_Wo_isShortName_49 (by decide) ?_
    exact hB_50 _ hr_17 y_1 y_2 y_4 y_5 0 S _ _ _ h hP hD hS (lv_sub hl [0, 1, 2, 3, 4] rfl)
  have hB_17 : ∀ (k : Nat), ∀ (y_1 : Int32) (y_2 : Int32) (y_3 : Int32) (y_4 : Int32) (S : CS) (H : Heap) (locs : List Loc) (ls : Array Slot), f_Wo_isShortName_17 K G k y_1 y_2 y_3 y_4 S = some (r, S') → va_P (dC, dI) classes (wV M Y G S) H → va_D A (wV M Y G S) → va_S A s.heap H locs → lv_has ls 6 [(0, .ref M.o_Dk), (1, .int y_1), (2, .int y_2), (3, .int y_3), (4, .int y_4)] → W p l e ({ frames := 1, cells := 0, slots := 0, locals := 21 }) s m ([.ref M.o_Dk, .int p1, .int p2] : List Value).toArray below meth c H locs 0 0 Q (F0 m 17 ls []) := by
    intro k
    induction k with
    | zero => intro y_1 y_2 y_3 y_4 S H locs ls h; exact lf_no h
    | succ k hr_17 =>
      intro y_1 y_2 y_3 y_4 S H locs ls h hP hD hS hl
      rw [f_Wo_isShortName_17] at h
      refine lv_iload hx hb d_Wo_isShortName_17 (lv_at hl 4 rfl) ?_
      refine lv_bipush (v := 11) hx hb d_Wo_isShortName_19 (by decide) ?_
      refine lv_icmp_ge (tgt := 91) hx hb d_Wo_isShortName_21 (by decide) (fun c_3 => ?_) (fun c_3 => ?_)
      · have h := lf_t h c_3
        refine lv_iconst (v := 1) hx hb d_Wo_isShortName_91 (by decide) ?_
        rw [hQ]
        have e1 : (1 : Int32) = r := congrArg Prod.fst (Option.some.inj h)
        have e2 : S = S' := congrArg Prod.snd (Option.some.inj h)
        have hP := ly_newP e2.symm hP
        have hD := ly_newD e2.symm hD
        exact W.zret (v := 1) hx hb hr rfl (fun t ht hW => ⟨⟨1, (), rfl, e1, by rw [ht]; exact hP, va_K.moved hW.alike hK, hD⟩, hS.F ht⟩) hS.2.2 d_Wo_isShortName_92
      · have h := lf_f h c_3
        refine lv_aload_n hx hb d_Wo_isShortName_24 rfl (lv_at hl 0 rfl) ?_
        refine lv_iload_n hx hb d_Wo_isShortName_25 rfl (lv_at hl 1 rfl) ?_
        refine lv_iload hx hb d_Wo_isShortName_26 (lv_at hl 4 rfl) ?_
        refine lv_iadd hx hb d_Wo_isShortName_28 ?_
        obtain ⟨r_4, S_4, hc_4, h⟩ := lf_cE h
        have hFc := lx_free hD hS hA
        refine va_calli (va_runV (As := [.int (y_1 + y_4)]) (rest := []) ⟨hx, hb, hml, hown, hts⟩ (l_Dk_one l dC dI X _ hc_4) (cwV 1 hts (gwV good_Vq (u_Vq_Wo _ k_Wo_3) (u_Vq_Dk _ k_Dk_20) (u_Vq_Dk _ k_Dk_21) (u_Vq_Dk _ k_Dk_0) (wcs (u_Vq_Dk _ k_Dk_22) (fun _ h => h))) rfl rfl rfl (by decide +kernel) ⟨Nat.le_of_ble_eq_true rfl, Nat.le_of_ble_eq_true rfl⟩) (pv_ofE (X.same _) (fun U z1 z2 => X.mono _ _ U hFc (hEw _ _ hS U z1 z2)) hP hK hD (va_recv hK hP (ci := 0) (q0 := 1) rfl rfl)) rfl rfl hl.1 rfl (lv_room (Nat.le_of_ble_eq_true rfl)) d_Wo_isShortName_29 ⟨by decide, by decide⟩) hS (fun q _ h => hFc q h) hFc (fun r_ u t H locs ht hvm hw hB hz1 hk1 hS => ?_)
        rw [hw]
        obtain ⟨hP, -, hD⟩ := hB
        rw [ht] at hP
        have hD := lx_dj hD hFc
        refine lv_istore (lv' := [(5, .int r_4), (0, .ref M.o_Dk), (1, .int y_1), (2, .int y_2), (3, .int y_3), (4, .int y_4)]) hx hb d_Wo_isShortName_32 hl (by decide) rfl (fun ls hl => ?_)
        refine lv_iload_n hx hb d_Wo_isShortName_34 rfl (lv_at hl 4 rfl) ?_
        refine lv_if_eq (tgt := 49) hx hb d_Wo_isShortName_35 (by decide) (fun c_5 => ?_) (fun c_5 => ?_)
        · have h := lf_t h c_5
          exact hB_49 _ hr_17 y_1 y_2 y_4 r_4 S_4 _ _ _ h hP hD hS (lv_sub hl [1, 2, 3, 5, 0] rfl)
        · have h := lf_f h c_5
          refine lv_iload hx hb d_Wo_isShortName_38 (lv_at hl 5 rfl) ?_
          refine lv_bipush (v := 8) hx hb d_Wo_isShortName_40 (by decide) ?_
          refine lv_icmp_eq (tgt := 49) hx hb d_Wo_isShortName_42 (by decide) (fun c_6 => ?_) (fun c_6 => ?_)
          · have h := lf_t h c_6
            exact hB_49 _ hr_17 y_1 y_2 y_4 r_4 S_4 _ _ _ h hP hD hS (lv_sub hl [1, 2, 3, 5, 0] rfl)
          · have h := lf_f h c_6
            refine lv_iconst (v := 1) hx hb d_Wo_isShortName_45 (by decide) ?_
            refine lv_goto (tgt := 50) hx hb d_Wo_isShortName_46 (by decide) ?_
            exact hB_50 _ hr_17 y_1 y_2 y_4 r_4 1 S_4 _ _ _ h hP hD hS (lv_sub hl [1, 2, 3, 5, 0] rfl)
  rw [f_Wo_isShortName] at h
  refine lv_aload_n hx hb d_Wo_isShortName_0 rfl (lv_at hl 0 rfl) ?_
  refine lv_iload_n hx hb d_Wo_isShortName_1 rfl (lv_at hl 1 rfl) ?_
  obtain ⟨r_1, S_1, hc_1, h⟩ := lf_cE h
  have hFc := lx_free hD hS hA
  refine va_calli (va_runV (As := [.int p1]) (rest := []) ⟨hx, hb, hml, hown, hts⟩ (l_Dk_one l dC dI X _ hc_1) (cwV 1 hts (gwV good_Vq (u_Vq_Wo _ k_Wo_3) (u_Vq_Dk _ k_Dk_20) (u_Vq_Dk _ k_Dk_21) (u_Vq_Dk _ k_Dk_0) (wcs (u_Vq_Dk _ k_Dk_22) (fun _ h => h))) rfl rfl rfl (by decide +kernel) ⟨Nat.le_of_ble_eq_true rfl, Nat.le_of_ble_eq_true rfl⟩) (pv_ofE (X.same _) (fun U z1 z2 => X.mono _ _ U hFc (hEw _ _ hS U z1 z2)) hP hK hD (va_recv hK hP (ci := 0) (q0 := 1) rfl rfl)) rfl rfl hl.1 rfl (lv_room (Nat.le_of_ble_eq_true rfl)) d_Wo_isShortName_2 ⟨by decide, by decide⟩) hS (fun q _ h => hFc q h) hFc (fun r_ u t H locs ht hvm hw hB hz1 hk1 hS => ?_)
  rw [hw]
  obtain ⟨hP, -, hD⟩ := hB
  rw [ht] at hP
  have hD := lx_dj hD hFc
  refine lv_bipush (v := 32) hx hb d_Wo_isShortName_5 (by decide) ?_
  refine lv_icmp_ne (tgt := 12) hx hb d_Wo_isShortName_7 (by decide) (fun c_2 => ?_) (fun c_2 => ?_)
  · have h := lf_f h c_2
    refine lv_iconst (v := 0) hx hb d_Wo_isShortName_12 (by decide) ?_
    refine lv_istore_n (lv' := [(3, .int 0), (0, .ref M.o_Dk), (1, .int p1), (2, .int p2)]) hx hb d_Wo_isShortName_13 rfl hl (by decide) rfl (fun ls hl => ?_)
    refine lv_iconst (v := 0) hx hb d_Wo_isShortName_14 (by decide) ?_
    refine lv_istore (lv' := [(4, .int 0), (3, .int 0), (0, .ref M.o_Dk), (1, .int p1), (2, .int p2)]) hx hb d_Wo_isShortName_15 hl (by decide) rfl (fun ls hl => ?_)
    exact hB_17 K p1 p2 0 0 S_1 _ _ _ h hP hD hS (lv_sub hl [2, 3, 4, 1, 0] rfl)
  · have h := lf_t h c_2
    refine lv_iconst (v := 0) hx hb d_Wo_isShortName_10 (by decide) ?_
    rw [hQ]
    have e1 : (0 : Int32) = r := congrArg Prod.fst (Option.some.inj h)
    have e2 : S_1 = S' := congrArg Prod.snd (Option.some.inj h)
    have hP := ly_newP e2.symm hP
    have hD := ly_newD e2.symm hD
    exact W.zret (v := 0) hx hb hr rfl (fun t ht hW => ⟨⟨0, (), rfl, e1, by rw [ht]; exact hP, va_K.moved hW.alike hK, hD⟩, hS.F ht⟩) hS.2.2 d_Wo_isShortName_11
set_option maxHeartbeats 4000000 in
set_option maxRecDepth 100000 in
theorem l_Wo_sum (l : Launch) (dC : Nat → ClassId) (dI : Nat → Nat → Nat) {K : Nat} {M : CA} {E : (Nat → Prop) → State → Prop} (X : ly_X l dC dI K M E) (sz : Nat) {Y : CT} {G : CG} {S S' : CS} {p1 : Int32} {r : Int32} (h : f_Wo_sum K G S p1 = some (r, S')) : Met l y_Wo_sum (.code y_Wo_sum cb_Wo_sum 4 (some .int) :: V_Vq) ({ frames := 1, cells := 0, slots := 0, locals := 21 }) (va_Pc [.ref M.o_Dk, .int p1] (fun U => U.heap.size = sz ∧ at_ (dC, dI) (fun _ => True) (wV M Y G S) (tV M) U ∧ E (va_A (wV M Y G S) sz) U)) (va_Qi (fun (r_ : Int32) (u : Unit) => r_ = r) (fun (u : Unit) t => at_ (dC, dI) (va_A (wV M Y G S) sz) (wV M Y G S') (tV M) t) (va_A (wV M Y G S) sz)) 0 0 (va_A (wV M Y G S) sz) := by
  refine Met.ofW (cc := cb_Wo_sum) (maxL := 4) (ret := (some .int)) (by decide) rfl ?_
  intro p e s m args below meth c s₁ B hml hv
  obtain ⟨rfl, hsz, ⟨hP, hK, hD0⟩, hE⟩ := hv
  have hx := B.exec
  have hb := B.bytes
  have hr := B.returns
  have hts0 := atoms_spec (ws := .code y_Wo_sum cb_Wo_sum 4 (some .int) :: V_Vq) B.pre
  have hts : ∀ w ∈ V_Vq, w.before ([.ref M.o_Dk, .int p1] : List Value).toArray s = true := fun w h => hts0 w (List.mem_cons_of_mem _ h)
  have hown : s.vm.findClass R_Wo = some m.cls := findClass_of_methodNamed B.named
  subst hsz
  have hD := hD0.self (sz := s.heap.size)
  generalize hAe : va_A (wV M Y G S) s.heap.size = A at hD hE ⊢
  have hA : ∀ q : Nat, s.heap.size ≤ q → A q := fun q h => by rw [← hAe]; exact Or.inr h
  have hS : va_S A s.heap s.heap [] := va_S.rf
  have hP : va_P (dC, dI) classes (wV M Y G S) s.heap := hP
  have hK : va_K (dC, dI) classes (tV M) s := hK
  have hEw : ∀ (H : Heap) (locs : List Loc), va_S A s.heap H locs → ∀ U : State, U.heap = H → s.WarmedH U.vm → E A U := fun H locs hS U hU hW => X.kept A s U H locs hE hS hU hW
  have hl := lv_entry ([.ref M.o_Dk, .int p1]) (n := 4) (Nat.le_of_ble_eq_true rfl)
  rw [lg_entry_eq]
  generalize (lg_sl ([.ref M.o_Dk, .int p1]) ++ List.replicate (4 - (lg_sl ([.ref M.o_Dk, .int p1])).length) Slot.unset).toArray = ls at hl ⊢
  have hl : lv_has ls 4 [(0, .ref M.o_Dk), (1, .int p1)] := hl
  refine qabs (fun Q hQ => ?_)
  have hB_4 : ∀ (k : Nat), ∀ (y_1 : Int32) (y_2 : Int32) (y_3 : Int32) (S : CS) (H : Heap) (locs : List Loc) (ls : Array Slot), f_Wo_sum_4 K G k y_1 y_2 y_3 S = some (r, S') → va_P (dC, dI) classes (wV M Y G S) H → va_D A (wV M Y G S) → va_S A s.heap H locs → lv_has ls 4 [(0, .ref M.o_Dk), (1, .int y_1), (2, .int y_2), (3, .int y_3)] → W p l e ({ frames := 1, cells := 0, slots := 0, locals := 21 }) s m ([.ref M.o_Dk, .int p1] : List Value).toArray below meth c H locs 0 0 Q (F0 m 4 ls []) := by
    intro k
    induction k with
    | zero => intro y_1 y_2 y_3 S H locs ls h; exact lf_no h
    | succ k hr_4 =>
      intro y_1 y_2 y_3 S H locs ls h hP hD hS hl
      rw [f_Wo_sum_4] at h
      refine lv_iload_n hx hb d_Wo_sum_4 rfl (lv_at hl 3 rfl) ?_
      refine lv_bipush (v := 11) hx hb d_Wo_sum_5 (by decide) ?_
      refine lv_icmp_ge (tgt := 40) hx hb d_Wo_sum_7 (by decide) (fun c_1 => ?_) (fun c_1 => ?_)
      · have h := lf_t h c_1
        refine lv_iload_n hx hb d_Wo_sum_40 rfl (lv_at hl 2 rfl) ?_
        rw [hQ]
        have e1 : y_2 = r := congrArg Prod.fst (Option.some.inj h)
        have e2 : S = S' := congrArg Prod.snd (Option.some.inj h)
        have hP := ly_newP e2.symm hP
        have hD := ly_newD e2.symm hD
        exact W.iret (v := y_2) hx hb hr (fun t ht hW => ⟨⟨y_2, (), rfl, e1, by rw [ht]; exact hP, va_K.moved hW.alike hK, hD⟩, hS.F ht⟩) hS.2.2 d_Wo_sum_41
      · have h := lf_f h c_1
        refine lv_iload_n hx hb d_Wo_sum_10 rfl (lv_at hl 2 rfl) ?_
        refine lv_iconst (v := 1) hx hb d_Wo_sum_11 (by decide) ?_
        refine lv_iand hx hb d_Wo_sum_12 ?_
        refine lv_sipush (v := 128) hx hb d_Wo_sum_13 (by decide) ?_
        refine lv_imul hx hb d_Wo_sum_16 ?_
        refine lv_iload_n hx hb d_Wo_sum_17 rfl (lv_at hl 2 rfl) ?_
        refine lv_iconst (v := 1) hx hb d_Wo_sum_18 (by decide) ?_
        refine lv_ishr hx hb d_Wo_sum_19 ?_
        refine lv_iadd hx hb d_Wo_sum_20 ?_
        refine lv_aload_n hx hb d_Wo_sum_21 rfl (lv_at hl 0 rfl) ?_
        refine lv_iload_n hx hb d_Wo_sum_22 rfl (lv_at hl 1 rfl) ?_
        refine lv_iload_n hx hb d_Wo_sum_23 rfl (lv_at hl 3 rfl) ?_
        refine lv_iadd hx hb d_Wo_sum_24 ?_
        obtain ⟨r_2, S_2, hc_2, h⟩ := lf_cE h
        have hFc := lx_free hD hS hA
        refine va_calli (va_runV (As := [.int (y_1 + y_3)]) (rest := [.int (((y_2 &&& 1) * 128) + (y_2 >>> ((1 : Int32) &&& 31)))]) ⟨hx, hb, hml, hown, hts⟩ (l_Dk_one l dC dI X _ hc_2) (cwV 1 hts (gwV good_Vq (u_Vq_Wo _ k_Wo_3) (u_Vq_Dk _ k_Dk_20) (u_Vq_Dk _ k_Dk_21) (u_Vq_Dk _ k_Dk_0) (wcs (u_Vq_Dk _ k_Dk_22) (fun _ h => h))) rfl rfl rfl (by decide +kernel) ⟨Nat.le_of_ble_eq_true rfl, Nat.le_of_ble_eq_true rfl⟩) (pv_ofE (X.same _) (fun U z1 z2 => X.mono _ _ U hFc (hEw _ _ hS U z1 z2)) hP hK hD (va_recv hK hP (ci := 0) (q0 := 1) rfl rfl)) rfl rfl hl.1 rfl (lv_room (Nat.le_of_ble_eq_true rfl)) d_Wo_sum_25 ⟨by decide, by decide⟩) hS (fun q _ h => hFc q h) hFc (fun r_ u t H locs ht hvm hw hB hz1 hk1 hS => ?_)
        rw [hw]
        obtain ⟨hP, -, hD⟩ := hB
        rw [ht] at hP
        have hD := lx_dj hD hFc
        refine lv_iadd hx hb d_Wo_sum_28 ?_
        refine lv_sipush (v := 255) hx hb d_Wo_sum_29 (by decide) ?_
        refine lv_iand hx hb d_Wo_sum_32 ?_
        refine lv_topi (fun x_3 ex_3 => ?_)
        have h := lf_lE h ex_3
        refine lv_istore_n (lv' := [(2, .int x_3), (0, .ref M.o_Dk), (1, .int y_1), (3, .int y_3)]) hx hb d_Wo_sum_33 rfl hl (by decide) rfl (fun ls hl => ?_)
        obtain ⟨x_4, ex_4, h⟩ := lf_lX h
        refine lv_iinc (v := x_4) (lv' := [(3, .int x_4), (2, .int x_3), (0, .ref M.o_Dk), (1, .int y_1)]) hx hb d_Wo_sum_34 hl (k := 3) rfl (by rw [ex_4]; rfl) (by decide) rfl (fun ls hl => ?_)
        refine lv_goto (tgt := 4) hx hb d_Wo_sum_37 (by decide) ?_
        exact hr_4 y_1 x_3 x_4 S_2 _ _ _ h hP hD hS (lv_sub hl [2, 3, 1, 0] rfl)
  rw [f_Wo_sum] at h
  refine lv_iconst (v := 0) hx hb d_Wo_sum_0 (by decide) ?_
  refine lv_istore_n (lv' := [(2, .int 0), (0, .ref M.o_Dk), (1, .int p1)]) hx hb d_Wo_sum_1 rfl hl (by decide) rfl (fun ls hl => ?_)
  refine lv_iconst (v := 0) hx hb d_Wo_sum_2 (by decide) ?_
  refine lv_istore_n (lv' := [(3, .int 0), (2, .int 0), (0, .ref M.o_Dk), (1, .int p1)]) hx hb d_Wo_sum_3 rfl hl (by decide) rfl (fun ls hl => ?_)
  exact hB_4 K p1 0 0 S _ _ _ h hP hD hS (lv_sub hl [2, 3, 1, 0] rfl)
set_option maxHeartbeats 4000000 in
set_option maxRecDepth 100000 in
theorem l_Wo_capital (l : Launch) (dC : Nat → ClassId) (dI : Nat → Nat → Nat) {K : Nat} (sz : Nat) {p0 : Int32} {r : Int32} (h : f_Wo_capital K p0 = some r) : Met l y_Wo_capital (.code y_Wo_capital b_Wo_capital 1 (some .int) :: V_Vq) ({ frames := 0, cells := 0, slots := 0, locals := 0 }) (va_Pc [.int p0] (fun U => U.heap.size = sz ∧ at_ (dC, dI) (fun _ => True) [] [] U)) (va_Qi (fun (r_ : Int32) (u : Unit) => r_ = r) (fun (u : Unit) t => at_ (dC, dI) (va_A [] sz) [] [] t) (va_A [] sz)) 0 0 (va_A [] sz) := by
  refine Met.ofW (cc := b_Wo_capital) (maxL := 1) (ret := (some .int)) (by decide) rfl ?_
  intro p e s m args below meth c s₁ B hml hv
  obtain ⟨rfl, hsz, hP, hK, hD0⟩ := hv
  have hx := B.exec
  have hb := B.bytes
  have hr := B.returns
  have hts0 := atoms_spec (ws := .code y_Wo_capital b_Wo_capital 1 (some .int) :: V_Vq) B.pre
  have hts : ∀ w ∈ V_Vq, w.before ([.int p0] : List Value).toArray s = true := fun w h => hts0 w (List.mem_cons_of_mem _ h)
  have hown : s.vm.findClass R_Wo = some m.cls := findClass_of_methodNamed B.named
  subst hsz
  have hD := hD0.self (sz := s.heap.size)
  generalize hAe : va_A [] s.heap.size = A at hD ⊢
  have hA : ∀ q : Nat, s.heap.size ≤ q → A q := fun q h => by rw [← hAe]; exact Or.inr h
  have hS : va_S A s.heap s.heap [] := va_S.rf
  have hP : va_P (dC, dI) classes [] s.heap := hP
  have hK : va_K (dC, dI) classes [] s := hK
  have hl := lv_entry ([.int p0]) (n := 1) (Nat.le_of_ble_eq_true rfl)
  rw [lg_entry_eq]
  generalize (lg_sl ([.int p0]) ++ List.replicate (1 - (lg_sl ([.int p0])).length) Slot.unset).toArray = ls at hl ⊢
  have hl : lv_has ls 1 [(0, .int p0)] := hl
  refine qabs (fun Q hQ => ?_)
  have hB_19 : ∀ (y_0 : Int32) (H : Heap) (locs : List Loc) (ls : Array Slot), f_Wo_capital_19 K y_0 = some r → va_P (dC, dI) classes [] H → va_D A [] → va_S A s.heap H locs → lv_has ls 1 [(0, .int y_0)] → W p l e ({ frames := 0, cells := 0, slots := 0, locals := 0 }) s m ([.int p0] : List Value).toArray below meth c H locs 0 0 Q (F0 m 19 ls []) := by
    intro y_0 H locs ls h hP hD hS hl
    rw [f_Wo_capital_19] at h
    refine lv_iload_n hx hb d_Wo_capital_19 rfl (lv_at hl 0 rfl) ?_
    rw [hQ]
    have e1 : y_0 = r := Option.some.inj h
    exact W.iret (v := y_0) hx hb hr (fun t ht hW => ⟨⟨y_0, (), rfl, e1, by rw [ht]; exact hP, va_K.moved hW.alike hK, hD⟩, hS.F ht⟩) hS.2.2 d_Wo_capital_20
  rw [f_Wo_capital] at h
  refine lv_iload_n hx hb d_Wo_capital_0 rfl (lv_at hl 0 rfl) ?_
  refine lv_bipush (v := 97) hx hb d_Wo_capital_1 (by decide) ?_
  refine lv_icmp_lt (tgt := 19) hx hb d_Wo_capital_3 (by decide) (fun c_1 => ?_) (fun c_1 => ?_)
  · have h := lf_t h c_1
    exact hB_19 p0 _ _ _ h hP hD hS (lv_sub hl [0] rfl)
  · have h := lf_f h c_1
    refine lv_iload_n hx hb d_Wo_capital_6 rfl (lv_at hl 0 rfl) ?_
    refine lv_bipush (v := 122) hx hb d_Wo_capital_7 (by decide) ?_
    refine lv_icmp_gt (tgt := 19) hx hb d_Wo_capital_9 (by decide) (fun c_2 => ?_) (fun c_2 => ?_)
    · have h := lf_t h c_2
      exact hB_19 p0 _ _ _ h hP hD hS (lv_sub hl [0] rfl)
    · have h := lf_f h c_2
      refine lv_iload_n hx hb d_Wo_capital_12 rfl (lv_at hl 0 rfl) ?_
      refine lv_bipush (v := 32) hx hb d_Wo_capital_13 (by decide) ?_
      refine lv_isub hx hb d_Wo_capital_15 ?_
      refine lv_goto (tgt := 20) hx hb d_Wo_capital_16 (by decide) ?_
      rw [hQ]
      have e1 : (p0 - 32) = r := Option.some.inj h
      exact W.iret (v := (p0 - 32)) hx hb hr (fun t ht hW => ⟨⟨(p0 - 32), (), rfl, e1, by rw [ht]; exact hP, va_K.moved hW.alike hK, hD⟩, hS.F ht⟩) hS.2.2 d_Wo_capital_20
set_option maxHeartbeats 4000000 in
set_option maxRecDepth 100000 in
theorem l_Wo_width (l : Launch) (dC : Nat → ClassId) (dI : Nat → Nat → Nat) {K : Nat} (sz : Nat) {p0 : Int32} {r : Int32} (h : f_Wo_width K p0 = some r) : Met l y_Wo_width (.code y_Wo_width b_Wo_width 1 (some .int) :: V_Vq) ({ frames := 0, cells := 0, slots := 0, locals := 0 }) (va_Pc [.int p0] (fun U => U.heap.size = sz ∧ at_ (dC, dI) (fun _ => True) [] [] U)) (va_Qi (fun (r_ : Int32) (u : Unit) => r_ = r) (fun (u : Unit) t => at_ (dC, dI) (va_A [] sz) [] [] t) (va_A [] sz)) 0 0 (va_A [] sz) := by
  refine Met.ofW (cc := b_Wo_width) (maxL := 1) (ret := (some .int)) (by decide) rfl ?_
  intro p e s m args below meth c s₁ B hml hv
  obtain ⟨rfl, hsz, hP, hK, hD0⟩ := hv
  have hx := B.exec
  have hb := B.bytes
  have hr := B.returns
  have hts0 := atoms_spec (ws := .code y_Wo_width b_Wo_width 1 (some .int) :: V_Vq) B.pre
  have hts : ∀ w ∈ V_Vq, w.before ([.int p0] : List Value).toArray s = true := fun w h => hts0 w (List.mem_cons_of_mem _ h)
  have hown : s.vm.findClass R_Wo = some m.cls := findClass_of_methodNamed B.named
  subst hsz
  have hD := hD0.self (sz := s.heap.size)
  generalize hAe : va_A [] s.heap.size = A at hD ⊢
  have hA : ∀ q : Nat, s.heap.size ≤ q → A q := fun q h => by rw [← hAe]; exact Or.inr h
  have hS : va_S A s.heap s.heap [] := va_S.rf
  have hP : va_P (dC, dI) classes [] s.heap := hP
  have hK : va_K (dC, dI) classes [] s := hK
  have hl := lv_entry ([.int p0]) (n := 1) (Nat.le_of_ble_eq_true rfl)
  rw [lg_entry_eq]
  generalize (lg_sl ([.int p0]) ++ List.replicate (1 - (lg_sl ([.int p0])).length) Slot.unset).toArray = ls at hl ⊢
  have hl : lv_has ls 1 [(0, .int p0)] := hl
  refine qabs (fun Q hQ => ?_)
  rw [f_Wo_width] at h
  refine lv_iload_n hx hb d_Wo_width_0 rfl (lv_at hl 0 rfl) ?_
  refine lv_sipush (v := 128) hx hb d_Wo_width_1 (by decide) ?_
  refine lv_icmp_ge (tgt := 11) hx hb d_Wo_width_4 (by decide) (fun c_1 => ?_) (fun c_1 => ?_)
  · have h := lf_t h c_1
    refine lv_iload_n hx hb d_Wo_width_11 rfl (lv_at hl 0 rfl) ?_
    refine lv_sipush (v := 2048) hx hb d_Wo_width_12 (by decide) ?_
    refine lv_icmp_ge (tgt := 22) hx hb d_Wo_width_15 (by decide) (fun c_2 => ?_) (fun c_2 => ?_)
    · have h := lf_t h c_2
      refine lv_iconst (v := 3) hx hb d_Wo_width_22 (by decide) ?_
      rw [hQ]
      have e1 : (3 : Int32) = r := Option.some.inj h
      exact W.iret (v := 3) hx hb hr (fun t ht hW => ⟨⟨3, (), rfl, e1, by rw [ht]; exact hP, va_K.moved hW.alike hK, hD⟩, hS.F ht⟩) hS.2.2 d_Wo_width_23
    · have h := lf_f h c_2
      refine lv_iconst (v := 2) hx hb d_Wo_width_18 (by decide) ?_
      refine lv_goto (tgt := 23) hx hb d_Wo_width_19 (by decide) ?_
      rw [hQ]
      have e1 : (2 : Int32) = r := Option.some.inj h
      exact W.iret (v := 2) hx hb hr (fun t ht hW => ⟨⟨2, (), rfl, e1, by rw [ht]; exact hP, va_K.moved hW.alike hK, hD⟩, hS.F ht⟩) hS.2.2 d_Wo_width_23
  · have h := lf_f h c_1
    refine lv_iconst (v := 1) hx hb d_Wo_width_7 (by decide) ?_
    refine lv_goto (tgt := 23) hx hb d_Wo_width_8 (by decide) ?_
    rw [hQ]
    have e1 : (1 : Int32) = r := Option.some.inj h
    exact W.iret (v := 1) hx hb hr (fun t ht hW => ⟨⟨1, (), rfl, e1, by rw [ht]; exact hP, va_K.moved hW.alike hK, hD⟩, hS.F ht⟩) hS.2.2 d_Wo_width_23
set_option maxHeartbeats 4000000 in
set_option maxRecDepth 100000 in
theorem l_Wo_byteOf (l : Launch) (dC : Nat → ClassId) (dI : Nat → Nat → Nat) {K : Nat} (sz : Nat) {p0 : Int32} {p1 : Int32} {r : Int32} (h : f_Wo_byteOf K p0 p1 = some r) : Met l y_Wo_byteOf (.code y_Wo_byteOf b_Wo_byteOf 4 (some .int) :: V_Vq) ({ frames := 1, cells := 0, slots := 0, locals := 20 }) (va_Pc [.int p0, .int p1] (fun U => U.heap.size = sz ∧ at_ (dC, dI) (fun _ => True) [] [] U)) (va_Qi (fun (r_ : Int32) (u : Unit) => r_ = r) (fun (u : Unit) t => at_ (dC, dI) (va_A [] sz) [] [] t) (va_A [] sz)) 0 0 (va_A [] sz) := by
  refine Met.ofW (cc := b_Wo_byteOf) (maxL := 4) (ret := (some .int)) (by decide) rfl ?_
  intro p e s m args below meth c s₁ B hml hv
  obtain ⟨rfl, hsz, hP, hK, hD0⟩ := hv
  have hx := B.exec
  have hb := B.bytes
  have hr := B.returns
  have hts0 := atoms_spec (ws := .code y_Wo_byteOf b_Wo_byteOf 4 (some .int) :: V_Vq) B.pre
  have hts : ∀ w ∈ V_Vq, w.before ([.int p0, .int p1] : List Value).toArray s = true := fun w h => hts0 w (List.mem_cons_of_mem _ h)
  have hown : s.vm.findClass R_Wo = some m.cls := findClass_of_methodNamed B.named
  subst hsz
  have hD := hD0.self (sz := s.heap.size)
  generalize hAe : va_A [] s.heap.size = A at hD ⊢
  have hA : ∀ q : Nat, s.heap.size ≤ q → A q := fun q h => by rw [← hAe]; exact Or.inr h
  have hS : va_S A s.heap s.heap [] := va_S.rf
  have hP : va_P (dC, dI) classes [] s.heap := hP
  have hK : va_K (dC, dI) classes [] s := hK
  have hl := lv_entry ([.int p0, .int p1]) (n := 4) (Nat.le_of_ble_eq_true rfl)
  rw [lg_entry_eq]
  generalize (lg_sl ([.int p0, .int p1]) ++ List.replicate (4 - (lg_sl ([.int p0, .int p1])).length) Slot.unset).toArray = ls at hl ⊢
  have hl : lv_has ls 4 [(0, .int p0), (1, .int p1)] := hl
  refine qabs (fun Q hQ => ?_)
  rw [f_Wo_byteOf] at h
  refine lv_iload_n hx hb d_Wo_byteOf_0 rfl (lv_at hl 0 rfl) ?_
  obtain ⟨r_1, hc_1, h⟩ := lf_bE h
  have hFc := lx_free0 hS hA
  refine va_calli (va_runS (As := [.int p0]) (rest := []) ⟨hx, hb, hml, hown, hts⟩ (l_Wo_width l dC dI  _ hc_1) (va_cwS 1 hts (gwS good_Vq (u_Vq_Wo _ k_Wo_23) (u_Vq_Wo _ k_Wo_19) (u_Vq_Wo _ k_Wo_0) (wcs (u_Vq_Wo _ k_Wo_20) (fun _ h => h))) rfl rfl rfl (by decide +kernel) ⟨Nat.le_of_ble_eq_true rfl, Nat.le_of_ble_eq_true rfl⟩) (ps_of (W := []) (tys := []) (hP.sub (ws' := []) [] rfl) (hK.sub [] rfl) (hD.sub (ws' := []) [] (by decide) rfl)) rfl rfl hl.1 rfl (lv_room (Nat.le_of_ble_eq_true rfl)) d_Wo_byteOf_1 ⟨by decide, by decide⟩) hS (fun q _ h => hFc q h) hFc (fun r_ u t H locs ht hvm hw hB hz1 hk1 hS => ?_)
  rw [hw]
  have hP := lx_stat (A := A) hP hk1
  refine lv_istore_n (lv' := [(2, .int r_1), (0, .int p0), (1, .int p1)]) hx hb d_Wo_byteOf_4 rfl hl (by decide) rfl (fun ls hl => ?_)
  refine lv_iload_n hx hb d_Wo_byteOf_5 rfl (lv_at hl 1 rfl) ?_
  refine lv_bipush (v := 6) hx hb d_Wo_byteOf_6 (by decide) ?_
  refine lv_iload_n hx hb d_Wo_byteOf_8 rfl (lv_at hl 0 rfl) ?_
  refine lv_iconst (v := 1) hx hb d_Wo_byteOf_9 (by decide) ?_
  refine lv_isub hx hb d_Wo_byteOf_10 ?_
  refine lv_iload_n hx hb d_Wo_byteOf_11 rfl (lv_at hl 2 rfl) ?_
  refine lv_isub hx hb d_Wo_byteOf_12 ?_
  refine lv_imul hx hb d_Wo_byteOf_13 ?_
  refine lv_ishr hx hb d_Wo_byteOf_14 ?_
  refine lv_topi (fun x_2 ex_2 => ?_)
  have h := lf_lE h ex_2
  refine lv_istore_n (lv' := [(3, .int x_2), (2, .int r_1), (0, .int p0), (1, .int p1)]) hx hb d_Wo_byteOf_15 rfl hl (by decide) rfl (fun ls hl => ?_)
  refine lv_iload_n hx hb d_Wo_byteOf_16 rfl (lv_at hl 3 rfl) ?_
  refine lv_if_le (tgt := 29) hx hb d_Wo_byteOf_17 (by decide) (fun c_3 => ?_) (fun c_3 => ?_)
  · have h := lf_t h c_3
    refine lv_iload_n hx hb d_Wo_byteOf_29 rfl (lv_at hl 1 rfl) ?_
    refine lv_iconst (v := 1) hx hb d_Wo_byteOf_30 (by decide) ?_
    refine lv_icmp_ne (tgt := 38) hx hb d_Wo_byteOf_31 (by decide) (fun c_4 => ?_) (fun c_4 => ?_)
    · have h := lf_f h c_4
      refine lv_iload_n hx hb d_Wo_byteOf_38 rfl (lv_at hl 1 rfl) ?_
      refine lv_iconst (v := 2) hx hb d_Wo_byteOf_39 (by decide) ?_
      refine lv_icmp_ne (tgt := 51) hx hb d_Wo_byteOf_40 (by decide) (fun c_5 => ?_) (fun c_5 => ?_)
      · have h := lf_f h c_5
        refine lv_sipush (v := 224) hx hb d_Wo_byteOf_51 (by decide) ?_
        refine lv_iload_n hx hb d_Wo_byteOf_54 rfl (lv_at hl 0 rfl) ?_
        refine lv_ior hx hb d_Wo_byteOf_55 ?_
        rw [hQ]
        have e1 : (224 ||| x_2) = r := Option.some.inj h
        exact W.iret (v := (224 ||| x_2)) hx hb hr (fun t ht hW => ⟨⟨(224 ||| x_2), (), rfl, e1, by rw [ht]; exact hP, va_K.moved hW.alike hK, hD⟩, hS.F ht⟩) hS.2.2 d_Wo_byteOf_56
      · have h := lf_t h c_5
        refine lv_sipush (v := 192) hx hb d_Wo_byteOf_43 (by decide) ?_
        refine lv_iload_n hx hb d_Wo_byteOf_46 rfl (lv_at hl 0 rfl) ?_
        refine lv_ior hx hb d_Wo_byteOf_47 ?_
        refine lv_goto (tgt := 56) hx hb d_Wo_byteOf_48 (by decide) ?_
        rw [hQ]
        have e1 : (192 ||| x_2) = r := Option.some.inj h
        exact W.iret (v := (192 ||| x_2)) hx hb hr (fun t ht hW => ⟨⟨(192 ||| x_2), (), rfl, e1, by rw [ht]; exact hP, va_K.moved hW.alike hK, hD⟩, hS.F ht⟩) hS.2.2 d_Wo_byteOf_56
    · have h := lf_t h c_4
      refine lv_iload_n hx hb d_Wo_byteOf_34 rfl (lv_at hl 2 rfl) ?_
      refine lv_goto (tgt := 56) hx hb d_Wo_byteOf_35 (by decide) ?_
      rw [hQ]
      have e1 : p0 = r := Option.some.inj h
      exact W.iret (v := p0) hx hb hr (fun t ht hW => ⟨⟨p0, (), rfl, e1, by rw [ht]; exact hP, va_K.moved hW.alike hK, hD⟩, hS.F ht⟩) hS.2.2 d_Wo_byteOf_56
  · have h := lf_f h c_3
    refine lv_sipush (v := 128) hx hb d_Wo_byteOf_20 (by decide) ?_
    refine lv_iload_n hx hb d_Wo_byteOf_23 rfl (lv_at hl 0 rfl) ?_
    refine lv_bipush (v := 63) hx hb d_Wo_byteOf_24 (by decide) ?_
    refine lv_iand hx hb d_Wo_byteOf_26 ?_
    refine lv_ior hx hb d_Wo_byteOf_27 ?_
    rw [hQ]
    have e1 : (128 ||| (x_2 &&& 63)) = r := Option.some.inj h
    exact W.iret (v := (128 ||| (x_2 &&& 63))) hx hb hr (fun t ht hW => ⟨⟨(128 ||| (x_2 &&& 63)), (), rfl, e1, by rw [ht]; exact hP, va_K.moved hW.alike hK, hD⟩, hS.F ht⟩) hS.2.2 d_Wo_byteOf_28
set_option maxHeartbeats 4000000 in
set_option maxRecDepth 100000 in
theorem l_Da_isDay (l : Launch) (dC : Nat → ClassId) (dI : Nat → Nat → Nat) {K : Nat} {M : CA} {E : (Nat → Prop) → State → Prop} (X : ly_X l dC dI K M E) (sz : Nat) {p0 : Int32} {r : Int32} (h : f_Da_isDay K p0 = some r) : Met l y_Da_isDay (.code y_Da_isDay b_Da_isDay 5 (some .boolean) :: V_Vq) ({ frames := 0, cells := 0, slots := 0, locals := 0 }) (va_Pc [.int p0] (fun U => U.heap.size = sz ∧ at_ (dC, dI) (fun _ => True) [] [] U ∧ E (va_A [] sz) U)) (va_Qi (fun (r_ : Int32) (u : Unit) => r_ = r) (fun (u : Unit) t => at_ (dC, dI) (va_A [] sz) [] [] t) (va_A [] sz)) 0 0 (va_A [] sz) := by
  refine Met.ofW (cc := b_Da_isDay) (maxL := 5) (ret := (some .boolean)) (by decide) rfl ?_
  intro p e s m args below meth c s₁ B hml hv
  obtain ⟨rfl, hsz, ⟨hP, hK, hD0⟩, hE⟩ := hv
  have hx := B.exec
  have hb := B.bytes
  have hr := B.returns
  have hts0 := atoms_spec (ws := .code y_Da_isDay b_Da_isDay 5 (some .boolean) :: V_Vq) B.pre
  have hts : ∀ w ∈ V_Vq, w.before ([.int p0] : List Value).toArray s = true := fun w h => hts0 w (List.mem_cons_of_mem _ h)
  have hown : s.vm.findClass R_Da = some m.cls := findClass_of_methodNamed B.named
  subst hsz
  have hD := hD0.self (sz := s.heap.size)
  generalize hAe : va_A [] s.heap.size = A at hD hE ⊢
  have hA : ∀ q : Nat, s.heap.size ≤ q → A q := fun q h => by rw [← hAe]; exact Or.inr h
  have hS : va_S A s.heap s.heap [] := va_S.rf
  have hP : va_P (dC, dI) classes [] s.heap := hP
  have hK : va_K (dC, dI) classes [] s := hK
  have hEw : ∀ (H : Heap) (locs : List Loc), va_S A s.heap H locs → ∀ U : State, U.heap = H → s.WarmedH U.vm → E A U := fun H locs hS U hU hW => X.kept A s U H locs hE hS hU hW
  have hl := lv_entry ([.int p0]) (n := 5) (Nat.le_of_ble_eq_true rfl)
  rw [lg_entry_eq]
  generalize (lg_sl ([.int p0]) ++ List.replicate (5 - (lg_sl ([.int p0])).length) Slot.unset).toArray = ls at hl ⊢
  have hl : lv_has ls 5 [(0, .int p0)] := hl
  refine qabs (fun Q hQ => ?_)
  have hB_28 : ∀ (H : Heap) (locs : List Loc) (ls : Array Slot), f_Da_isDay_28 K = some r → va_P (dC, dI) classes [] H → va_D A [] → va_S A s.heap H locs → lv_has ls 5 [] → W p l e ({ frames := 0, cells := 0, slots := 0, locals := 0 }) s m ([.int p0] : List Value).toArray below meth c H locs 0 0 Q (F0 m 28 ls []) := by
    intro  H locs ls h hP hD hS hl
    rw [f_Da_isDay_28] at h
    refine lv_iconst (v := 0) hx hb d_Da_isDay_28 (by decide) ?_
    rw [hQ]
    have e1 : (0 : Int32) = r := Option.some.inj h
    exact W.zret (v := 0) hx hb hr rfl (fun t ht hW => ⟨⟨0, (), rfl, e1, by rw [ht]; exact hP, va_K.moved hW.alike hK, hD⟩, hS.F ht⟩) hS.2.2 d_Da_isDay_29
  have hB_117 : ∀ (H : Heap) (locs : List Loc) (ls : Array Slot), f_Da_isDay_117 K = some r → va_P (dC, dI) classes [] H → va_D A [] → va_S A s.heap H locs → lv_has ls 5 [] → W p l e ({ frames := 0, cells := 0, slots := 0, locals := 0 }) s m ([.int p0] : List Value).toArray below meth c H locs 0 0 Q (F0 m 117 ls []) := by
    intro  H locs ls h hP hD hS hl
    rw [f_Da_isDay_117] at h
    refine lv_iconst (v := 0) hx hb d_Da_isDay_117 (by decide) ?_
    rw [hQ]
    have e1 : (0 : Int32) = r := Option.some.inj h
    exact W.zret (v := 0) hx hb hr rfl (fun t ht hW => ⟨⟨0, (), rfl, e1, by rw [ht]; exact hP, va_K.moved hW.alike hK, hD⟩, hS.F ht⟩) hS.2.2 d_Da_isDay_118
  have hB_93 : ∀ (y_0 : Int32) (z_0 : Int32) (z_1 : Int32) (H : Heap) (locs : List Loc) (ls : Array Slot), f_Da_isDay_93 K y_0 z_0 z_1 = some r → va_P (dC, dI) classes [] H → va_D A [] → va_S A s.heap H locs → lv_has ls 5 [(0, .int y_0)] → W p l e ({ frames := 0, cells := 0, slots := 0, locals := 0 }) s m ([.int p0] : List Value).toArray below meth c H locs 0 0 Q (F0 m 93 ls [.int z_1, .int z_0]) := by
    intro y_0 z_0 z_1 H locs ls h hP hD hS hl
    rw [f_Da_isDay_93] at h
    refine lv_iadd hx hb d_Da_isDay_93 ?_
    refine lv_topi (fun x_14 ex_14 => ?_)
    have h := lf_lE h ex_14
    refine lv_istore (lv' := [(4, .int x_14), (0, .int y_0)]) hx hb d_Da_isDay_94 hl (by decide) rfl (fun ls hl => ?_)
    refine lv_iload_n hx hb d_Da_isDay_96 rfl (lv_at hl 1 rfl) ?_
    refine lv_bipush (v := 31) hx hb d_Da_isDay_97 (by decide) ?_
    refine lv_iand hx hb d_Da_isDay_99 ?_
    refine lv_iconst (v := 1) hx hb d_Da_isDay_100 (by decide) ?_
    refine lv_icmp_lt (tgt := 117) hx hb d_Da_isDay_101 (by decide) (fun c_15 => ?_) (fun c_15 => ?_)
    · have h := lf_t h c_15
      exact hB_117 _ _ _ h hP hD hS (lv_sub hl [] rfl)
    · have h := lf_f h c_15
      refine lv_iload_n hx hb d_Da_isDay_104 rfl (lv_at hl 1 rfl) ?_
      refine lv_bipush (v := 31) hx hb d_Da_isDay_105 (by decide) ?_
      refine lv_iand hx hb d_Da_isDay_107 ?_
      refine lv_iload hx hb d_Da_isDay_108 (lv_at hl 0 rfl) ?_
      refine lv_icmp_gt (tgt := 117) hx hb d_Da_isDay_110 (by decide) (fun c_16 => ?_) (fun c_16 => ?_)
      · have h := lf_t h c_16
        exact hB_117 _ _ _ h hP hD hS (lv_sub hl [] rfl)
      · have h := lf_f h c_16
        refine lv_iconst (v := 1) hx hb d_Da_isDay_113 (by decide) ?_
        refine lv_goto (tgt := 118) hx hb d_Da_isDay_114 (by decide) ?_
        rw [hQ]
        have e1 : (1 : Int32) = r := Option.some.inj h
        exact W.zret (v := 1) hx hb hr rfl (fun t ht hW => ⟨⟨1, (), rfl, e1, by rw [ht]; exact hP, va_K.moved hW.alike hK, hD⟩, hS.F ht⟩) hS.2.2 d_Da_isDay_118
  have hB_92 : ∀ (y_0 : Int32) (z_0 : Int32) (H : Heap) (locs : List Loc) (ls : Array Slot), f_Da_isDay_92 K y_0 z_0 = some r → va_P (dC, dI) classes [] H → va_D A [] → va_S A s.heap H locs → lv_has ls 5 [(0, .int y_0)] → W p l e ({ frames := 0, cells := 0, slots := 0, locals := 0 }) s m ([.int p0] : List Value).toArray below meth c H locs 0 0 Q (F0 m 92 ls [.int z_0]) := by
    intro y_0 z_0 H locs ls h hP hD hS hl
    rw [f_Da_isDay_92] at h
    refine lv_iconst (v := 0) hx hb d_Da_isDay_92 (by decide) ?_
    exact hB_93 y_0 z_0 0 _ _ _ h hP hD hS (lv_sub hl [0] rfl)
  have hB_65 : ∀ (y_0 : Int32) (y_1 : Int32) (z_0 : Int32) (H : Heap) (locs : List Loc) (ls : Array Slot), f_Da_isDay_65 K y_0 y_1 z_0 = some r → va_P (dC, dI) classes [] H → va_D A [] → va_S A s.heap H locs → lv_has ls 5 [(0, .int y_0), (1, .int y_1)] → W p l e ({ frames := 0, cells := 0, slots := 0, locals := 0 }) s m ([.int p0] : List Value).toArray below meth c H locs 0 0 Q (F0 m 65 ls [.int z_0]) := by
    intro y_0 y_1 z_0 H locs ls h hP hD hS hl
    rw [f_Da_isDay_65] at h
    refine lv_istore_n (lv' := [(3, .int z_0), (0, .int y_0), (1, .int y_1)]) hx hb d_Da_isDay_65 rfl hl (by decide) rfl (fun ls hl => ?_)
    refine va_gets hx hb (X.bmz A s hE) hS hown (hts _ (u_Vq_Da _ k_Da_12)) (fun x h => h) d_Da_isDay_66 ?_
    refine lv_iload_n hx hb d_Da_isDay_69 rfl (lv_at hl 2 rfl) ?_
    obtain ⟨g_10, h⟩ := lf_gE h
    refine va_ti hx hb (X.bmt A s hE) hS g_10 rfl d_Da_isDay_70 ?_
    refine va_gets hx hb (X.bmz A s hE) hS hown (hts _ (u_Vq_Da _ k_Da_12)) (fun x h => h) d_Da_isDay_71 ?_
    refine lv_iload_n hx hb d_Da_isDay_74 rfl (lv_at hl 2 rfl) ?_
    refine lv_iconst (v := 1) hx hb d_Da_isDay_75 (by decide) ?_
    refine lv_isub hx hb d_Da_isDay_76 ?_
    obtain ⟨g_11, h⟩ := lf_gE h
    refine va_ti hx hb (X.bmt A s hE) hS g_11 rfl d_Da_isDay_77 ?_
    refine lv_isub hx hb d_Da_isDay_78 ?_
    refine lv_iload_n hx hb d_Da_isDay_79 rfl (lv_at hl 0 rfl) ?_
    refine lv_if_eq (tgt := 92) hx hb d_Da_isDay_80 (by decide) (fun c_12 => ?_) (fun c_12 => ?_)
    · have h := lf_t h c_12
      exact hB_92 y_0 ((bmF y_1.toNatClampNeg) - (bmF (y_1 - 1).toNatClampNeg)) _ _ _ h hP hD hS (lv_sub hl [1] rfl)
    · have h := lf_f h c_12
      refine lv_iload_n hx hb d_Da_isDay_83 rfl (lv_at hl 2 rfl) ?_
      refine lv_iconst (v := 2) hx hb d_Da_isDay_84 (by decide) ?_
      refine lv_icmp_ne (tgt := 92) hx hb d_Da_isDay_85 (by decide) (fun c_13 => ?_) (fun c_13 => ?_)
      · have h := lf_f h c_13
        exact hB_92 y_0 ((bmF y_1.toNatClampNeg) - (bmF (y_1 - 1).toNatClampNeg)) _ _ _ h hP hD hS (lv_sub hl [1] rfl)
      · have h := lf_t h c_13
        refine lv_iconst (v := 1) hx hb d_Da_isDay_88 (by decide) ?_
        refine lv_goto (tgt := 93) hx hb d_Da_isDay_89 (by decide) ?_
        exact hB_93 y_0 ((bmF y_1.toNatClampNeg) - (bmF (y_1 - 1).toNatClampNeg)) 1 _ _ _ h hP hD hS (lv_sub hl [1] rfl)
  have hB_60 : ∀ (y_0 : Int32) (y_1 : Int32) (H : Heap) (locs : List Loc) (ls : Array Slot), f_Da_isDay_60 K y_0 y_1 = some r → va_P (dC, dI) classes [] H → va_D A [] → va_S A s.heap H locs → lv_has ls 5 [(0, .int y_0), (1, .int y_1)] → W p l e ({ frames := 0, cells := 0, slots := 0, locals := 0 }) s m ([.int p0] : List Value).toArray below meth c H locs 0 0 Q (F0 m 60 ls []) := by
    intro y_0 y_1 H locs ls h hP hD hS hl
    rw [f_Da_isDay_60] at h
    refine lv_iconst (v := 1) hx hb d_Da_isDay_60 (by decide) ?_
    refine lv_goto (tgt := 65) hx hb d_Da_isDay_61 (by decide) ?_
    exact hB_65 y_0 y_1 1 _ _ _ h hP hD hS (lv_sub hl [0, 1] rfl)
  have hB_64 : ∀ (y_0 : Int32) (y_1 : Int32) (H : Heap) (locs : List Loc) (ls : Array Slot), f_Da_isDay_64 K y_0 y_1 = some r → va_P (dC, dI) classes [] H → va_D A [] → va_S A s.heap H locs → lv_has ls 5 [(0, .int y_0), (1, .int y_1)] → W p l e ({ frames := 0, cells := 0, slots := 0, locals := 0 }) s m ([.int p0] : List Value).toArray below meth c H locs 0 0 Q (F0 m 64 ls []) := by
    intro y_0 y_1 H locs ls h hP hD hS hl
    rw [f_Da_isDay_64] at h
    refine lv_iconst (v := 0) hx hb d_Da_isDay_64 (by decide) ?_
    exact hB_65 y_0 y_1 0 _ _ _ h hP hD hS (lv_sub hl [0, 1] rfl)
  rw [f_Da_isDay] at h
  refine lv_iload_n hx hb d_Da_isDay_0 rfl (lv_at hl 0 rfl) ?_
  refine lv_iconst (v := 5) hx hb d_Da_isDay_1 (by decide) ?_
  refine lv_ishr hx hb d_Da_isDay_2 ?_
  refine lv_bipush (v := 15) hx hb d_Da_isDay_3 (by decide) ?_
  refine lv_iand hx hb d_Da_isDay_5 ?_
  refine lv_topi (fun x_1 ex_1 => ?_)
  have h := lf_lE h ex_1
  refine lv_istore_n (lv' := [(1, .int x_1), (0, .int p0)]) hx hb d_Da_isDay_6 rfl hl (by decide) rfl (fun ls hl => ?_)
  refine lv_iload_n hx hb d_Da_isDay_7 rfl (lv_at hl 1 rfl) ?_
  refine lv_if_lt (tgt := 28) hx hb d_Da_isDay_8 (by decide) (fun c_2 => ?_) (fun c_2 => ?_)
  · have h := lf_t h c_2
    exact hB_28 _ _ _ h hP hD hS (lv_sub hl [] rfl)
  · have h := lf_f h c_2
    refine lv_iload_n hx hb d_Da_isDay_11 rfl (lv_at hl 1 rfl) ?_
    refine lv_ldc (v := 65535) hx hb hown (hts _ (u_Vq_Da _ k_Da_11)) d_Da_isDay_12 ?_
    refine lv_icmp_gt (tgt := 28) hx hb d_Da_isDay_14 (by decide) (fun c_3 => ?_) (fun c_3 => ?_)
    · have h := lf_t h c_3
      exact hB_28 _ _ _ h hP hD hS (lv_sub hl [] rfl)
    · have h := lf_f h c_3
      refine lv_iload_n hx hb d_Da_isDay_17 rfl (lv_at hl 0 rfl) ?_
      refine lv_iconst (v := 1) hx hb d_Da_isDay_18 (by decide) ?_
      refine lv_icmp_lt (tgt := 28) hx hb d_Da_isDay_19 (by decide) (fun c_4 => ?_) (fun c_4 => ?_)
      · have h := lf_t h c_4
        exact hB_28 _ _ _ h hP hD hS (lv_sub hl [] rfl)
      · have h := lf_f h c_4
        refine lv_iload_n hx hb d_Da_isDay_22 rfl (lv_at hl 0 rfl) ?_
        refine lv_bipush (v := 12) hx hb d_Da_isDay_23 (by decide) ?_
        refine lv_icmp_le (tgt := 30) hx hb d_Da_isDay_25 (by decide) (fun c_5 => ?_) (fun c_5 => ?_)
        · have h := lf_t h c_5
          refine lv_sipush (v := 1980) hx hb d_Da_isDay_30 (by decide) ?_
          refine lv_iload_n hx hb d_Da_isDay_33 rfl (lv_at hl 1 rfl) ?_
          refine lv_bipush (v := 9) hx hb d_Da_isDay_34 (by decide) ?_
          refine lv_ishr hx hb d_Da_isDay_36 ?_
          refine lv_iadd hx hb d_Da_isDay_37 ?_
          refine lv_topi (fun x_6 ex_6 => ?_)
          have h := lf_lE h ex_6
          refine lv_istore_n (lv' := [(2, .int x_6), (1, .int x_1), (0, .int p0)]) hx hb d_Da_isDay_38 rfl hl (by decide) rfl (fun ls hl => ?_)
          refine lv_iload_n hx hb d_Da_isDay_39 rfl (lv_at hl 0 rfl) ?_
          refine lv_iconst (v := 4) hx hb d_Da_isDay_40 (by decide) ?_
          refine lv_irem hx hb d_Da_isDay_41 (by decide) ?_
          refine lv_if_ne (tgt := 64) hx hb d_Da_isDay_42 (by decide) (fun c_7 => ?_) (fun c_7 => ?_)
          · have h := lf_f h c_7
            exact hB_64 p0 x_1 _ _ _ h hP hD hS (lv_sub hl [2, 1] rfl)
          · have h := lf_t h c_7
            refine lv_iload_n hx hb d_Da_isDay_45 rfl (lv_at hl 0 rfl) ?_
            refine lv_bipush (v := 100) hx hb d_Da_isDay_46 (by decide) ?_
            refine lv_irem hx hb d_Da_isDay_48 (by decide) ?_
            refine lv_if_ne (tgt := 60) hx hb d_Da_isDay_49 (by decide) (fun c_8 => ?_) (fun c_8 => ?_)
            · have h := lf_f h c_8
              exact hB_60 p0 x_1 _ _ _ h hP hD hS (lv_sub hl [2, 1] rfl)
            · have h := lf_t h c_8
              refine lv_iload_n hx hb d_Da_isDay_52 rfl (lv_at hl 0 rfl) ?_
              refine lv_sipush (v := 400) hx hb d_Da_isDay_53 (by decide) ?_
              refine lv_irem hx hb d_Da_isDay_56 (by decide) ?_
              refine lv_if_ne (tgt := 64) hx hb d_Da_isDay_57 (by decide) (fun c_9 => ?_) (fun c_9 => ?_)
              · have h := lf_f h c_9
                exact hB_64 p0 x_1 _ _ _ h hP hD hS (lv_sub hl [2, 1] rfl)
              · have h := lf_t h c_9
                exact hB_60 p0 x_1 _ _ _ h hP hD hS (lv_sub hl [2, 1] rfl)
        · have h := lf_f h c_5
          exact hB_28 _ _ _ h hP hD hS (lv_sub hl [] rfl)
set_option maxHeartbeats 4000000 in
set_option maxRecDepth 100000 in
theorem l_Da_isTime (l : Launch) (dC : Nat → ClassId) (dI : Nat → Nat → Nat) {K : Nat} (sz : Nat) {p0 : Int32} {r : Int32} (h : f_Da_isTime K p0 = some r) : Met l y_Da_isTime (.code y_Da_isTime b_Da_isTime 1 (some .boolean) :: V_Vq) ({ frames := 0, cells := 0, slots := 0, locals := 0 }) (va_Pc [.int p0] (fun U => U.heap.size = sz ∧ at_ (dC, dI) (fun _ => True) [] [] U)) (va_Qi (fun (r_ : Int32) (u : Unit) => r_ = r) (fun (u : Unit) t => at_ (dC, dI) (va_A [] sz) [] [] t) (va_A [] sz)) 0 0 (va_A [] sz) := by
  refine Met.ofW (cc := b_Da_isTime) (maxL := 1) (ret := (some .boolean)) (by decide) rfl ?_
  intro p e s m args below meth c s₁ B hml hv
  obtain ⟨rfl, hsz, hP, hK, hD0⟩ := hv
  have hx := B.exec
  have hb := B.bytes
  have hr := B.returns
  have hts0 := atoms_spec (ws := .code y_Da_isTime b_Da_isTime 1 (some .boolean) :: V_Vq) B.pre
  have hts : ∀ w ∈ V_Vq, w.before ([.int p0] : List Value).toArray s = true := fun w h => hts0 w (List.mem_cons_of_mem _ h)
  have hown : s.vm.findClass R_Da = some m.cls := findClass_of_methodNamed B.named
  subst hsz
  have hD := hD0.self (sz := s.heap.size)
  generalize hAe : va_A [] s.heap.size = A at hD ⊢
  have hA : ∀ q : Nat, s.heap.size ≤ q → A q := fun q h => by rw [← hAe]; exact Or.inr h
  have hS : va_S A s.heap s.heap [] := va_S.rf
  have hP : va_P (dC, dI) classes [] s.heap := hP
  have hK : va_K (dC, dI) classes [] s := hK
  have hl := lv_entry ([.int p0]) (n := 1) (Nat.le_of_ble_eq_true rfl)
  rw [lg_entry_eq]
  generalize (lg_sl ([.int p0]) ++ List.replicate (1 - (lg_sl ([.int p0])).length) Slot.unset).toArray = ls at hl ⊢
  have hl : lv_has ls 1 [(0, .int p0)] := hl
  refine qabs (fun Q hQ => ?_)
  have hB_37 : ∀ (H : Heap) (locs : List Loc) (ls : Array Slot), f_Da_isTime_37 K = some r → va_P (dC, dI) classes [] H → va_D A [] → va_S A s.heap H locs → lv_has ls 1 [] → W p l e ({ frames := 0, cells := 0, slots := 0, locals := 0 }) s m ([.int p0] : List Value).toArray below meth c H locs 0 0 Q (F0 m 37 ls []) := by
    intro  H locs ls h hP hD hS hl
    rw [f_Da_isTime_37] at h
    refine lv_iconst (v := 0) hx hb d_Da_isTime_37 (by decide) ?_
    rw [hQ]
    have e1 : (0 : Int32) = r := Option.some.inj h
    exact W.zret (v := 0) hx hb hr rfl (fun t ht hW => ⟨⟨0, (), rfl, e1, by rw [ht]; exact hP, va_K.moved hW.alike hK, hD⟩, hS.F ht⟩) hS.2.2 d_Da_isTime_38
  rw [f_Da_isTime] at h
  refine lv_iload_n hx hb d_Da_isTime_0 rfl (lv_at hl 0 rfl) ?_
  refine lv_if_lt (tgt := 37) hx hb d_Da_isTime_1 (by decide) (fun c_1 => ?_) (fun c_1 => ?_)
  · have h := lf_t h c_1
    exact hB_37 _ _ _ h hP hD hS (lv_sub hl [] rfl)
  · have h := lf_f h c_1
    refine lv_iload_n hx hb d_Da_isTime_4 rfl (lv_at hl 0 rfl) ?_
    refine lv_bipush (v := 11) hx hb d_Da_isTime_5 (by decide) ?_
    refine lv_ishr hx hb d_Da_isTime_7 ?_
    refine lv_bipush (v := 24) hx hb d_Da_isTime_8 (by decide) ?_
    refine lv_icmp_ge (tgt := 37) hx hb d_Da_isTime_10 (by decide) (fun c_2 => ?_) (fun c_2 => ?_)
    · have h := lf_t h c_2
      exact hB_37 _ _ _ h hP hD hS (lv_sub hl [] rfl)
    · have h := lf_f h c_2
      refine lv_iload_n hx hb d_Da_isTime_13 rfl (lv_at hl 0 rfl) ?_
      refine lv_iconst (v := 5) hx hb d_Da_isTime_14 (by decide) ?_
      refine lv_ishr hx hb d_Da_isTime_15 ?_
      refine lv_bipush (v := 63) hx hb d_Da_isTime_16 (by decide) ?_
      refine lv_iand hx hb d_Da_isTime_18 ?_
      refine lv_bipush (v := 60) hx hb d_Da_isTime_19 (by decide) ?_
      refine lv_icmp_ge (tgt := 37) hx hb d_Da_isTime_21 (by decide) (fun c_3 => ?_) (fun c_3 => ?_)
      · have h := lf_t h c_3
        exact hB_37 _ _ _ h hP hD hS (lv_sub hl [] rfl)
      · have h := lf_f h c_3
        refine lv_iload_n hx hb d_Da_isTime_24 rfl (lv_at hl 0 rfl) ?_
        refine lv_bipush (v := 31) hx hb d_Da_isTime_25 (by decide) ?_
        refine lv_iand hx hb d_Da_isTime_27 ?_
        refine lv_bipush (v := 30) hx hb d_Da_isTime_28 (by decide) ?_
        refine lv_icmp_ge (tgt := 37) hx hb d_Da_isTime_30 (by decide) (fun c_4 => ?_) (fun c_4 => ?_)
        · have h := lf_t h c_4
          exact hB_37 _ _ _ h hP hD hS (lv_sub hl [] rfl)
        · have h := lf_f h c_4
          refine lv_iconst (v := 1) hx hb d_Da_isTime_33 (by decide) ?_
          refine lv_goto (tgt := 38) hx hb d_Da_isTime_34 (by decide) ?_
          rw [hQ]
          have e1 : (1 : Int32) = r := Option.some.inj h
          exact W.zret (v := 1) hx hb hr rfl (fun t ht hW => ⟨⟨1, (), rfl, e1, by rw [ht]; exact hP, va_K.moved hW.alike hK, hD⟩, hS.F ht⟩) hS.2.2 d_Da_isTime_38
set_option maxHeartbeats 4000000 in
set_option maxRecDepth 100000 in
theorem l_Da_madeFits (l : Launch) (dC : Nat → ClassId) (dI : Nat → Nat → Nat) {K : Nat} {M : CA} {E : (Nat → Prop) → State → Prop} (X : ly_X l dC dI K M E) (sz : Nat) {p0 : Int32} {p1 : Int32} {p2 : Int32} {r : Int32} (h : f_Da_madeFits K p0 p1 p2 = some r) : Met l y_Da_madeFits (.code y_Da_madeFits b_Da_madeFits 3 (some .boolean) :: V_Vq) ({ frames := 1, cells := 0, slots := 0, locals := 24 }) (va_Pc [.int p0, .int p1, .int p2] (fun U => U.heap.size = sz ∧ at_ (dC, dI) (fun _ => True) [] [] U ∧ E (va_A [] sz) U)) (va_Qi (fun (r_ : Int32) (u : Unit) => r_ = r) (fun (u : Unit) t => at_ (dC, dI) (va_A [] sz) [] [] t) (va_A [] sz)) 0 0 (va_A [] sz) := by
  refine Met.ofW (cc := b_Da_madeFits) (maxL := 3) (ret := (some .boolean)) (by decide) rfl ?_
  intro p e s m args below meth c s₁ B hml hv
  obtain ⟨rfl, hsz, ⟨hP, hK, hD0⟩, hE⟩ := hv
  have hx := B.exec
  have hb := B.bytes
  have hr := B.returns
  have hts0 := atoms_spec (ws := .code y_Da_madeFits b_Da_madeFits 3 (some .boolean) :: V_Vq) B.pre
  have hts : ∀ w ∈ V_Vq, w.before ([.int p0, .int p1, .int p2] : List Value).toArray s = true := fun w h => hts0 w (List.mem_cons_of_mem _ h)
  have hown : s.vm.findClass R_Da = some m.cls := findClass_of_methodNamed B.named
  subst hsz
  have hD := hD0.self (sz := s.heap.size)
  generalize hAe : va_A [] s.heap.size = A at hD hE ⊢
  have hA : ∀ q : Nat, s.heap.size ≤ q → A q := fun q h => by rw [← hAe]; exact Or.inr h
  have hS : va_S A s.heap s.heap [] := va_S.rf
  have hP : va_P (dC, dI) classes [] s.heap := hP
  have hK : va_K (dC, dI) classes [] s := hK
  have hEw : ∀ (H : Heap) (locs : List Loc), va_S A s.heap H locs → ∀ U : State, U.heap = H → s.WarmedH U.vm → E A U := fun H locs hS U hU hW => X.kept A s U H locs hE hS hU hW
  have hl := lv_entry ([.int p0, .int p1, .int p2]) (n := 3) (Nat.le_of_ble_eq_true rfl)
  rw [lg_entry_eq]
  generalize (lg_sl ([.int p0, .int p1, .int p2]) ++ List.replicate (3 - (lg_sl ([.int p0, .int p1, .int p2])).length) Slot.unset).toArray = ls at hl ⊢
  have hl : lv_has ls 3 [(0, .int p0), (1, .int p1), (2, .int p2)] := hl
  refine qabs (fun Q hQ => ?_)
  have hB_16 : ∀ (H : Heap) (locs : List Loc) (ls : Array Slot), f_Da_madeFits_16 K = some r → va_P (dC, dI) classes [] H → va_D A [] → va_S A s.heap H locs → lv_has ls 3 [] → W p l e ({ frames := 1, cells := 0, slots := 0, locals := 24 }) s m ([.int p0, .int p1, .int p2] : List Value).toArray below meth c H locs 0 0 Q (F0 m 16 ls []) := by
    intro  H locs ls h hP hD hS hl
    rw [f_Da_madeFits_16] at h
    refine lv_iconst (v := 0) hx hb d_Da_madeFits_16 (by decide) ?_
    rw [hQ]
    have e1 : (0 : Int32) = r := Option.some.inj h
    exact W.zret (v := 0) hx hb hr rfl (fun t ht hW => ⟨⟨0, (), rfl, e1, by rw [ht]; exact hP, va_K.moved hW.alike hK, hD⟩, hS.F ht⟩) hS.2.2 d_Da_madeFits_17
  have hB_47 : ∀ (H : Heap) (locs : List Loc) (ls : Array Slot), f_Da_madeFits_47 K = some r → va_P (dC, dI) classes [] H → va_D A [] → va_S A s.heap H locs → lv_has ls 3 [] → W p l e ({ frames := 1, cells := 0, slots := 0, locals := 24 }) s m ([.int p0, .int p1, .int p2] : List Value).toArray below meth c H locs 0 0 Q (F0 m 47 ls []) := by
    intro  H locs ls h hP hD hS hl
    rw [f_Da_madeFits_47] at h
    refine lv_iconst (v := 0) hx hb d_Da_madeFits_47 (by decide) ?_
    rw [hQ]
    have e1 : (0 : Int32) = r := Option.some.inj h
    exact W.zret (v := 0) hx hb hr rfl (fun t ht hW => ⟨⟨0, (), rfl, e1, by rw [ht]; exact hP, va_K.moved hW.alike hK, hD⟩, hS.F ht⟩) hS.2.2 d_Da_madeFits_48
  rw [f_Da_madeFits] at h
  refine lv_iload_n hx hb d_Da_madeFits_0 rfl (lv_at hl 0 rfl) ?_
  refine lv_if_ne (tgt := 18) hx hb d_Da_madeFits_1 (by decide) (fun c_1 => ?_) (fun c_1 => ?_)
  · have h := lf_f h c_1
    refine lv_iload_n hx hb d_Da_madeFits_18 rfl (lv_at hl 0 rfl) ?_
    obtain ⟨r_2, hc_2, h⟩ := lf_bE h
    have hFc := lx_free0 hS hA
    refine va_calli (va_runS (As := [.int p0]) (rest := []) ⟨hx, hb, hml, hown, hts⟩ (l_Da_isDay l dC dI X _ hc_2) (va_cwS 1 hts (gwS good_Vq (u_Vq_Da _ k_Da_8) (u_Vq_Da _ k_Da_9) (u_Vq_Da _ k_Da_0) (wcs (u_Vq_Da _ k_Da_10) (fun _ h => h))) rfl rfl rfl (by decide +kernel) ⟨Nat.le_of_ble_eq_true rfl, Nat.le_of_ble_eq_true rfl⟩) (ps_ofE2 (W := []) (tys := []) (X.same _) (fun U z1 z2 => X.mono _ _ U hFc (hEw _ _ hS U z1 z2)) (hP.sub (ws' := []) [] rfl) (hK.sub [] rfl) (hD.sub (ws' := []) [] (by decide) rfl)) rfl rfl hl.1 rfl (lv_room (Nat.le_of_ble_eq_true rfl)) d_Da_madeFits_19 ⟨by decide, by decide⟩) hS (fun q _ h => hFc q h) hFc (fun r_ u t H locs ht hvm hw hB hz1 hk1 hS => ?_)
    rw [hw]
    have hP := lx_stat (A := A) hP hk1
    refine lv_if_eq (tgt := 47) hx hb d_Da_madeFits_22 (by decide) (fun c_3 => ?_) (fun c_3 => ?_)
    · have h := lf_t h c_3
      exact hB_47 _ _ _ h hP hD hS (lv_sub hl [] rfl)
    · have h := lf_f h c_3
      refine lv_iload_n hx hb d_Da_madeFits_25 rfl (lv_at hl 1 rfl) ?_
      obtain ⟨r_4, hc_4, h⟩ := lf_bE h
      have hFc := lx_free0 hS hA
      refine va_calli (va_runS (As := [.int p1]) (rest := []) ⟨hx, hb, hml, hown, hts⟩ (l_Da_isTime l dC dI  _ hc_4) (va_cwS 1 hts (gwS good_Vq (u_Vq_Da _ k_Da_13) (u_Vq_Da _ k_Da_14) (u_Vq_Da _ k_Da_0) (wcs (u_Vq_Da _ k_Da_15) (fun _ h => h))) rfl rfl rfl (by decide +kernel) ⟨Nat.le_of_ble_eq_true rfl, Nat.le_of_ble_eq_true rfl⟩) (ps_of (W := []) (tys := []) (hP.sub (ws' := []) [] rfl) (hK.sub [] rfl) (hD.sub (ws' := []) [] (by decide) rfl)) rfl rfl hl.1 rfl (lv_room (Nat.le_of_ble_eq_true rfl)) d_Da_madeFits_26 ⟨by decide, by decide⟩) hS (fun q _ h => hFc q h) hFc (fun r_ u t H locs ht hvm hw hB hz1 hk1 hS => ?_)
      rw [hw]
      have hP := lx_stat (A := A) hP hk1
      refine lv_if_eq (tgt := 47) hx hb d_Da_madeFits_29 (by decide) (fun c_5 => ?_) (fun c_5 => ?_)
      · have h := lf_t h c_5
        exact hB_47 _ _ _ h hP hD hS (lv_sub hl [] rfl)
      · have h := lf_f h c_5
        refine lv_iload_n hx hb d_Da_madeFits_32 rfl (lv_at hl 2 rfl) ?_
        refine lv_if_lt (tgt := 47) hx hb d_Da_madeFits_33 (by decide) (fun c_6 => ?_) (fun c_6 => ?_)
        · have h := lf_t h c_6
          exact hB_47 _ _ _ h hP hD hS (lv_sub hl [] rfl)
        · have h := lf_f h c_6
          refine lv_iload_n hx hb d_Da_madeFits_36 rfl (lv_at hl 2 rfl) ?_
          refine lv_sipush (v := 200) hx hb d_Da_madeFits_37 (by decide) ?_
          refine lv_icmp_ge (tgt := 47) hx hb d_Da_madeFits_40 (by decide) (fun c_7 => ?_) (fun c_7 => ?_)
          · have h := lf_t h c_7
            exact hB_47 _ _ _ h hP hD hS (lv_sub hl [] rfl)
          · have h := lf_f h c_7
            refine lv_iconst (v := 1) hx hb d_Da_madeFits_43 (by decide) ?_
            refine lv_goto (tgt := 48) hx hb d_Da_madeFits_44 (by decide) ?_
            rw [hQ]
            have e1 : (1 : Int32) = r := Option.some.inj h
            exact W.zret (v := 1) hx hb hr rfl (fun t ht hW => ⟨⟨1, (), rfl, e1, by rw [ht]; exact hP, va_K.moved hW.alike hK, hD⟩, hS.F ht⟩) hS.2.2 d_Da_madeFits_48
  · have h := lf_t h c_1
    refine lv_iload_n hx hb d_Da_madeFits_4 rfl (lv_at hl 1 rfl) ?_
    refine lv_if_ne (tgt := 16) hx hb d_Da_madeFits_5 (by decide) (fun c_8 => ?_) (fun c_8 => ?_)
    · have h := lf_f h c_8
      exact hB_16 _ _ _ h hP hD hS (lv_sub hl [] rfl)
    · have h := lf_t h c_8
      refine lv_iload_n hx hb d_Da_madeFits_8 rfl (lv_at hl 2 rfl) ?_
      refine lv_if_ne (tgt := 16) hx hb d_Da_madeFits_9 (by decide) (fun c_9 => ?_) (fun c_9 => ?_)
      · have h := lf_f h c_9
        exact hB_16 _ _ _ h hP hD hS (lv_sub hl [] rfl)
      · have h := lf_t h c_9
        refine lv_iconst (v := 1) hx hb d_Da_madeFits_12 (by decide) ?_
        refine lv_goto (tgt := 17) hx hb d_Da_madeFits_13 (by decide) ?_
        rw [hQ]
        have e1 : (1 : Int32) = r := Option.some.inj h
        exact W.zret (v := 1) hx hb hr rfl (fun t ht hW => ⟨⟨1, (), rfl, e1, by rw [ht]; exact hP, va_K.moved hW.alike hK, hD⟩, hS.F ht⟩) hS.2.2 d_Da_madeFits_17
set_option maxHeartbeats 4000000 in
set_option maxRecDepth 100000 in
theorem l_Da_readFits (l : Launch) (dC : Nat → ClassId) (dI : Nat → Nat → Nat) {K : Nat} {M : CA} {E : (Nat → Prop) → State → Prop} (X : ly_X l dC dI K M E) (sz : Nat) {p0 : Int32} {r : Int32} (h : f_Da_readFits K p0 = some r) : Met l y_Da_readFits (.code y_Da_readFits b_Da_readFits 1 (some .boolean) :: V_Vq) ({ frames := 1, cells := 0, slots := 0, locals := 24 }) (va_Pc [.int p0] (fun U => U.heap.size = sz ∧ at_ (dC, dI) (fun _ => True) [] [] U ∧ E (va_A [] sz) U)) (va_Qi (fun (r_ : Int32) (u : Unit) => r_ = r) (fun (u : Unit) t => at_ (dC, dI) (va_A [] sz) [] [] t) (va_A [] sz)) 0 0 (va_A [] sz) := by
  refine Met.ofW (cc := b_Da_readFits) (maxL := 1) (ret := (some .boolean)) (by decide) rfl ?_
  intro p e s m args below meth c s₁ B hml hv
  obtain ⟨rfl, hsz, ⟨hP, hK, hD0⟩, hE⟩ := hv
  have hx := B.exec
  have hb := B.bytes
  have hr := B.returns
  have hts0 := atoms_spec (ws := .code y_Da_readFits b_Da_readFits 1 (some .boolean) :: V_Vq) B.pre
  have hts : ∀ w ∈ V_Vq, w.before ([.int p0] : List Value).toArray s = true := fun w h => hts0 w (List.mem_cons_of_mem _ h)
  have hown : s.vm.findClass R_Da = some m.cls := findClass_of_methodNamed B.named
  subst hsz
  have hD := hD0.self (sz := s.heap.size)
  generalize hAe : va_A [] s.heap.size = A at hD hE ⊢
  have hA : ∀ q : Nat, s.heap.size ≤ q → A q := fun q h => by rw [← hAe]; exact Or.inr h
  have hS : va_S A s.heap s.heap [] := va_S.rf
  have hP : va_P (dC, dI) classes [] s.heap := hP
  have hK : va_K (dC, dI) classes [] s := hK
  have hEw : ∀ (H : Heap) (locs : List Loc), va_S A s.heap H locs → ∀ U : State, U.heap = H → s.WarmedH U.vm → E A U := fun H locs hS U hU hW => X.kept A s U H locs hE hS hU hW
  have hl := lv_entry ([.int p0]) (n := 1) (Nat.le_of_ble_eq_true rfl)
  rw [lg_entry_eq]
  generalize (lg_sl ([.int p0]) ++ List.replicate (1 - (lg_sl ([.int p0])).length) Slot.unset).toArray = ls at hl ⊢
  have hl : lv_has ls 1 [(0, .int p0)] := hl
  refine qabs (fun Q hQ => ?_)
  have hB_11 : ∀ (H : Heap) (locs : List Loc) (ls : Array Slot), f_Da_readFits_11 K = some r → va_P (dC, dI) classes [] H → va_D A [] → va_S A s.heap H locs → lv_has ls 1 [] → W p l e ({ frames := 1, cells := 0, slots := 0, locals := 24 }) s m ([.int p0] : List Value).toArray below meth c H locs 0 0 Q (F0 m 11 ls []) := by
    intro  H locs ls h hP hD hS hl
    rw [f_Da_readFits_11] at h
    refine lv_iconst (v := 1) hx hb d_Da_readFits_11 (by decide) ?_
    refine lv_goto (tgt := 16) hx hb d_Da_readFits_12 (by decide) ?_
    rw [hQ]
    have e1 : (1 : Int32) = r := Option.some.inj h
    exact W.zret (v := 1) hx hb hr rfl (fun t ht hW => ⟨⟨1, (), rfl, e1, by rw [ht]; exact hP, va_K.moved hW.alike hK, hD⟩, hS.F ht⟩) hS.2.2 d_Da_readFits_16
  rw [f_Da_readFits] at h
  refine lv_iload_n hx hb d_Da_readFits_0 rfl (lv_at hl 0 rfl) ?_
  refine lv_if_eq (tgt := 11) hx hb d_Da_readFits_1 (by decide) (fun c_1 => ?_) (fun c_1 => ?_)
  · have h := lf_t h c_1
    exact hB_11 _ _ _ h hP hD hS (lv_sub hl [] rfl)
  · have h := lf_f h c_1
    refine lv_iload_n hx hb d_Da_readFits_4 rfl (lv_at hl 0 rfl) ?_
    obtain ⟨r_2, hc_2, h⟩ := lf_bE h
    have hFc := lx_free0 hS hA
    refine va_calli (va_runS (As := [.int p0]) (rest := []) ⟨hx, hb, hml, hown, hts⟩ (l_Da_isDay l dC dI X _ hc_2) (va_cwS 1 hts (gwS good_Vq (u_Vq_Da _ k_Da_8) (u_Vq_Da _ k_Da_9) (u_Vq_Da _ k_Da_0) (wcs (u_Vq_Da _ k_Da_10) (fun _ h => h))) rfl rfl rfl (by decide +kernel) ⟨Nat.le_of_ble_eq_true rfl, Nat.le_of_ble_eq_true rfl⟩) (ps_ofE2 (W := []) (tys := []) (X.same _) (fun U z1 z2 => X.mono _ _ U hFc (hEw _ _ hS U z1 z2)) (hP.sub (ws' := []) [] rfl) (hK.sub [] rfl) (hD.sub (ws' := []) [] (by decide) rfl)) rfl rfl hl.1 rfl (lv_room (Nat.le_of_ble_eq_true rfl)) d_Da_readFits_5 ⟨by decide, by decide⟩) hS (fun q _ h => hFc q h) hFc (fun r_ u t H locs ht hvm hw hB hz1 hk1 hS => ?_)
    rw [hw]
    have hP := lx_stat (A := A) hP hk1
    refine lv_if_eq (tgt := 15) hx hb d_Da_readFits_8 (by decide) (fun c_3 => ?_) (fun c_3 => ?_)
    · have h := lf_t h c_3
      refine lv_iconst (v := 0) hx hb d_Da_readFits_15 (by decide) ?_
      rw [hQ]
      have e1 : (0 : Int32) = r := Option.some.inj h
      exact W.zret (v := 0) hx hb hr rfl (fun t ht hW => ⟨⟨0, (), rfl, e1, by rw [ht]; exact hP, va_K.moved hW.alike hK, hD⟩, hS.F ht⟩) hS.2.2 d_Da_readFits_16
    · have h := lf_f h c_3
      exact hB_11 _ _ _ h hP hD hS (lv_sub hl [] rfl)
set_option maxHeartbeats 4000000 in
set_option maxRecDepth 100000 in
theorem l_Dk_two (l : Launch) (dC : Nat → ClassId) (dI : Nat → Nat → Nat) {K : Nat} {M : CA} {E : (Nat → Prop) → State → Prop} (X : ly_X l dC dI K M E) (sz : Nat) {Y : CT} {G : CG} {S S' : CS} {p0 : Int32} {r : Int32} (h : f_Dk_two K G S p0 = some (r, S')) : Met l y_Dk_two (.code y_Dk_two cb_Dk_two 2 (some .int) :: V_Vq) ({ frames := 0, cells := 0, slots := 0, locals := 0 }) (va_Pc [.ref M.o_Dk, .int p0] (fun U => U.heap.size = sz ∧ at_ (dC, dI) (fun _ => True) (wV M Y G S) (tV M) U ∧ E (va_A (wV M Y G S) sz) U)) (va_Qi (fun (r_ : Int32) (u : Unit) => r_ = r) (fun (u : Unit) t => at_ (dC, dI) (va_A (wV M Y G S) sz) (wV M Y G S') (tV M) t) (va_A (wV M Y G S) sz)) 0 0 (va_A (wV M Y G S) sz) := by
  refine Met.ofW (cc := cb_Dk_two) (maxL := 2) (ret := (some .int)) (by decide) rfl ?_
  intro p e s m args below meth c s₁ B hml hv
  obtain ⟨rfl, hsz, ⟨hP, hK, hD0⟩, hE⟩ := hv
  have hx := B.exec
  have hb := B.bytes
  have hr := B.returns
  have hts0 := atoms_spec (ws := .code y_Dk_two cb_Dk_two 2 (some .int) :: V_Vq) B.pre
  have hts : ∀ w ∈ V_Vq, w.before ([.ref M.o_Dk, .int p0] : List Value).toArray s = true := fun w h => hts0 w (List.mem_cons_of_mem _ h)
  have hown : s.vm.findClass R_Dk = some m.cls := findClass_of_methodNamed B.named
  subst hsz
  have hD := hD0.self (sz := s.heap.size)
  generalize hAe : va_A (wV M Y G S) s.heap.size = A at hD hE ⊢
  have hA : ∀ q : Nat, s.heap.size ≤ q → A q := fun q h => by rw [← hAe]; exact Or.inr h
  have hS : va_S A s.heap s.heap [] := va_S.rf
  have hP : va_P (dC, dI) classes (wV M Y G S) s.heap := hP
  have hK : va_K (dC, dI) classes (tV M) s := hK
  have hEw : ∀ (H : Heap) (locs : List Loc), va_S A s.heap H locs → ∀ U : State, U.heap = H → s.WarmedH U.vm → E A U := fun H locs hS U hU hW => X.kept A s U H locs hE hS hU hW
  have hl := lv_entry ([.ref M.o_Dk, .int p0]) (n := 2) (Nat.le_of_ble_eq_true rfl)
  rw [lg_entry_eq]
  generalize (lg_sl ([.ref M.o_Dk, .int p0]) ++ List.replicate (2 - (lg_sl ([.ref M.o_Dk, .int p0])).length) Slot.unset).toArray = ls at hl ⊢
  have hl : lv_has ls 2 [(0, .ref M.o_Dk), (1, .int p0)] := hl
  refine qabs (fun Q hQ => ?_)
  have hB_15 : ∀ (S : CS) (H : Heap) (locs : List Loc) (ls : Array Slot), f_Dk_two_15 K G S = some (r, S') → va_P (dC, dI) classes (wV M Y G S) H → va_D A (wV M Y G S) → va_S A s.heap H locs → lv_has ls 2 [] → W p l e ({ frames := 0, cells := 0, slots := 0, locals := 0 }) s m ([.ref M.o_Dk, .int p0] : List Value).toArray below meth c H locs 0 0 Q (F0 m 15 ls []) := by
    intro S H locs ls h hP hD hS hl
    rw [f_Dk_two_15] at h
    refine lv_iconst (v := 0) hx hb d_Dk_two_15 (by decide) ?_
    rw [hQ]
    have e1 : (0 : Int32) = r := congrArg Prod.fst (Option.some.inj h)
    have e2 : S = S' := congrArg Prod.snd (Option.some.inj h)
    have hP := ly_newP e2.symm hP
    have hD := ly_newD e2.symm hD
    exact W.iret (v := 0) hx hb hr (fun t ht hW => ⟨⟨0, (), rfl, e1, by rw [ht]; exact hP, va_K.moved hW.alike hK, hD⟩, hS.F ht⟩) hS.2.2 d_Dk_two_16
  rw [f_Dk_two] at h
  refine lv_iload_n hx hb d_Dk_two_0 rfl (lv_at hl 1 rfl) ?_
  refine lv_if_lt (tgt := 15) hx hb d_Dk_two_1 (by decide) (fun c_1 => ?_) (fun c_1 => ?_)
  · have h := lf_t h c_1
    exact hB_15 S _ _ _ h hP hD hS (lv_sub hl [] rfl)
  · have h := lf_f h c_1
    refine lv_iload_n hx hb d_Dk_two_4 rfl (lv_at hl 1 rfl) ?_
    refine lv_aload_n hx hb d_Dk_two_5 rfl (lv_at hl 0 rfl) ?_
    refine va_get (D := (dC, dI)) (ci := 0) (v := .ref M.a_Dk_bytes) (C := R_Dk) (T := F_Dk) (N := 3) hx hb hts (fun w h => u_Vq_Dk w (i_Dk w h)) hown hK hP 1 rfl rfl 1 (by decide) (hts _ (u_Vq_Dk _ k_Dk_6)) (fun _ h9 => h9) rfl d_Dk_two_6 ?_
    refine va_alen (v := nI (512 * G.n)) hx hb hK hP 12 0 rfl rfl rfl d_Dk_two_9 ?_
    refine lv_iconst (v := 2) hx hb d_Dk_two_10 (by decide) ?_
    refine lv_isub hx hb d_Dk_two_11 ?_
    refine lv_icmp_le (tgt := 17) hx hb d_Dk_two_12 (by decide) (fun c_2 => ?_) (fun c_2 => ?_)
    · have h := lf_t h c_2
      refine lv_aload_n hx hb d_Dk_two_17 rfl (lv_at hl 0 rfl) ?_
      refine va_get (D := (dC, dI)) (ci := 0) (v := .ref M.a_Dk_bytes) (C := R_Dk) (T := F_Dk) (N := 3) hx hb hts (fun w h => u_Vq_Dk w (i_Dk w h)) hown hK hP 1 rfl rfl 1 (by decide) (hts _ (u_Vq_Dk _ k_Dk_6)) (fun _ h9 => h9) rfl d_Dk_two_18 ?_
      refine lv_iload_n hx hb d_Dk_two_21 rfl (lv_at hl 1 rfl) ?_
      obtain ⟨g_3, h⟩ := lf_gE h
      refine va_bald hx hb hK hP 12 0 rfl rfl g_3 d_Dk_two_22 ?_
      refine lv_sipush (v := 255) hx hb d_Dk_two_23 (by decide) ?_
      refine lv_iand hx hb d_Dk_two_26 ?_
      refine lv_aload_n hx hb d_Dk_two_27 rfl (lv_at hl 0 rfl) ?_
      refine va_get (D := (dC, dI)) (ci := 0) (v := .ref M.a_Dk_bytes) (C := R_Dk) (T := F_Dk) (N := 3) hx hb hts (fun w h => u_Vq_Dk w (i_Dk w h)) hown hK hP 1 rfl rfl 1 (by decide) (hts _ (u_Vq_Dk _ k_Dk_6)) (fun _ h9 => h9) rfl d_Dk_two_28 ?_
      refine lv_iload_n hx hb d_Dk_two_31 rfl (lv_at hl 1 rfl) ?_
      refine lv_iconst (v := 1) hx hb d_Dk_two_32 (by decide) ?_
      refine lv_iadd hx hb d_Dk_two_33 ?_
      obtain ⟨g_4, h⟩ := lf_gE h
      refine va_bald hx hb hK hP 12 0 rfl rfl g_4 d_Dk_two_34 ?_
      refine lv_sipush (v := 255) hx hb d_Dk_two_35 (by decide) ?_
      refine lv_iand hx hb d_Dk_two_38 ?_
      refine lv_bipush (v := 8) hx hb d_Dk_two_39 (by decide) ?_
      refine lv_ishl hx hb d_Dk_two_41 ?_
      refine lv_ior hx hb d_Dk_two_42 ?_
      rw [hQ]
      have e1 : (((S.w_Dk_bytes p0.toNatClampNeg) &&& 255) ||| (((S.w_Dk_bytes (p0 + 1).toNatClampNeg) &&& 255) <<< ((8 : Int32) &&& 31))) = r := congrArg Prod.fst (Option.some.inj h)
      have e2 : S = S' := congrArg Prod.snd (Option.some.inj h)
      have hP := ly_newP e2.symm hP
      have hD := ly_newD e2.symm hD
      exact W.iret (v := (((S.w_Dk_bytes p0.toNatClampNeg) &&& 255) ||| (((S.w_Dk_bytes (p0 + 1).toNatClampNeg) &&& 255) <<< ((8 : Int32) &&& 31)))) hx hb hr (fun t ht hW => ⟨⟨(((S.w_Dk_bytes p0.toNatClampNeg) &&& 255) ||| (((S.w_Dk_bytes (p0 + 1).toNatClampNeg) &&& 255) <<< ((8 : Int32) &&& 31))), (), rfl, e1, by rw [ht]; exact hP, va_K.moved hW.alike hK, hD⟩, hS.F ht⟩) hS.2.2 d_Dk_two_43
    · have h := lf_f h c_2
      exact hB_15 S _ _ _ h hP hD hS (lv_sub hl [] rfl)
set_option maxHeartbeats 4000000 in
set_option maxRecDepth 100000 in
theorem l_Da_fit (l : Launch) (dC : Nat → ClassId) (dI : Nat → Nat → Nat) {K : Nat} {M : CA} {E : (Nat → Prop) → State → Prop} (X : ly_X l dC dI K M E) (sz : Nat) {Y : CT} {G : CG} {S S' : CS} {p1 : Int32} {r : Int32} (h : f_Da_fit K G S p1 = some (r, S')) : Met l y_Da_fit (.code y_Da_fit cb_Da_fit 2 (some .boolean) :: V_Vq) ({ frames := 2, cells := 0, slots := 0, locals := 46 }) (va_Pc [.ref M.o_Dk, .int p1] (fun U => U.heap.size = sz ∧ at_ (dC, dI) (fun _ => True) (wV M Y G S) (tV M) U ∧ E (va_A (wV M Y G S) sz) U)) (va_Qi (fun (r_ : Int32) (u : Unit) => r_ = r) (fun (u : Unit) t => at_ (dC, dI) (va_A (wV M Y G S) sz) (wV M Y G S') (tV M) t) (va_A (wV M Y G S) sz)) 0 0 (va_A (wV M Y G S) sz) := by
  refine Met.ofW (cc := cb_Da_fit) (maxL := 2) (ret := (some .boolean)) (by decide) rfl ?_
  intro p e s m args below meth c s₁ B hml hv
  obtain ⟨rfl, hsz, ⟨hP, hK, hD0⟩, hE⟩ := hv
  have hx := B.exec
  have hb := B.bytes
  have hr := B.returns
  have hts0 := atoms_spec (ws := .code y_Da_fit cb_Da_fit 2 (some .boolean) :: V_Vq) B.pre
  have hts : ∀ w ∈ V_Vq, w.before ([.ref M.o_Dk, .int p1] : List Value).toArray s = true := fun w h => hts0 w (List.mem_cons_of_mem _ h)
  have hown : s.vm.findClass R_Da = some m.cls := findClass_of_methodNamed B.named
  subst hsz
  have hD := hD0.self (sz := s.heap.size)
  generalize hAe : va_A (wV M Y G S) s.heap.size = A at hD hE ⊢
  have hA : ∀ q : Nat, s.heap.size ≤ q → A q := fun q h => by rw [← hAe]; exact Or.inr h
  have hS : va_S A s.heap s.heap [] := va_S.rf
  have hP : va_P (dC, dI) classes (wV M Y G S) s.heap := hP
  have hK : va_K (dC, dI) classes (tV M) s := hK
  have hEw : ∀ (H : Heap) (locs : List Loc), va_S A s.heap H locs → ∀ U : State, U.heap = H → s.WarmedH U.vm → E A U := fun H locs hS U hU hW => X.kept A s U H locs hE hS hU hW
  have hl := lv_entry ([.ref M.o_Dk, .int p1]) (n := 2) (Nat.le_of_ble_eq_true rfl)
  rw [lg_entry_eq]
  generalize (lg_sl ([.ref M.o_Dk, .int p1]) ++ List.replicate (2 - (lg_sl ([.ref M.o_Dk, .int p1])).length) Slot.unset).toArray = ls at hl ⊢
  have hl : lv_has ls 2 [(0, .ref M.o_Dk), (1, .int p1)] := hl
  refine qabs (fun Q hQ => ?_)
  have hB_76 : ∀ (S : CS) (H : Heap) (locs : List Loc) (ls : Array Slot), f_Da_fit_76 K G S = some (r, S') → va_P (dC, dI) classes (wV M Y G S) H → va_D A (wV M Y G S) → va_S A s.heap H locs → lv_has ls 2 [] → W p l e ({ frames := 2, cells := 0, slots := 0, locals := 46 }) s m ([.ref M.o_Dk, .int p1] : List Value).toArray below meth c H locs 0 0 Q (F0 m 76 ls []) := by
    intro S H locs ls h hP hD hS hl
    rw [f_Da_fit_76] at h
    refine lv_iconst (v := 0) hx hb d_Da_fit_76 (by decide) ?_
    rw [hQ]
    have e1 : (0 : Int32) = r := congrArg Prod.fst (Option.some.inj h)
    have e2 : S = S' := congrArg Prod.snd (Option.some.inj h)
    have hP := ly_newP e2.symm hP
    have hD := ly_newD e2.symm hD
    exact W.zret (v := 0) hx hb hr rfl (fun t ht hW => ⟨⟨0, (), rfl, e1, by rw [ht]; exact hP, va_K.moved hW.alike hK, hD⟩, hS.F ht⟩) hS.2.2 d_Da_fit_77
  rw [f_Da_fit] at h
  refine lv_aload_n hx hb d_Da_fit_0 rfl (lv_at hl 0 rfl) ?_
  refine lv_iload_n hx hb d_Da_fit_1 rfl (lv_at hl 1 rfl) ?_
  refine lv_bipush (v := 16) hx hb d_Da_fit_2 (by decide) ?_
  refine lv_iadd hx hb d_Da_fit_4 ?_
  obtain ⟨r_1, S_1, hc_1, h⟩ := lf_cE h
  have hFc := lx_free hD hS hA
  refine va_calli (va_runV (As := [.int (p1 + 16)]) (rest := []) ⟨hx, hb, hml, hown, hts⟩ (l_Dk_two l dC dI X _ hc_1) (cwV 1 hts (gwV good_Vq (u_Vq_Da _ k_Da_3) (u_Vq_Dk _ k_Dk_17) (u_Vq_Dk _ k_Dk_18) (u_Vq_Dk _ k_Dk_0) (wcs (u_Vq_Dk _ k_Dk_19) (fun _ h => h))) rfl rfl rfl (by decide +kernel) ⟨Nat.le_of_ble_eq_true rfl, Nat.le_of_ble_eq_true rfl⟩) (pv_ofE (X.same _) (fun U z1 z2 => X.mono _ _ U hFc (hEw _ _ hS U z1 z2)) hP hK hD (va_recv hK hP (ci := 0) (q0 := 1) rfl rfl)) rfl rfl hl.1 rfl (lv_room (Nat.le_of_ble_eq_true rfl)) d_Da_fit_5 ⟨by decide, by decide⟩) hS (fun q _ h => hFc q h) hFc (fun r_ u t H locs ht hvm hw hB hz1 hk1 hS => ?_)
  rw [hw]
  obtain ⟨hP, -, hD⟩ := hB
  rw [ht] at hP
  have hD := lx_dj hD hFc
  refine lv_aload_n hx hb d_Da_fit_8 rfl (lv_at hl 0 rfl) ?_
  refine lv_iload_n hx hb d_Da_fit_9 rfl (lv_at hl 1 rfl) ?_
  refine lv_bipush (v := 14) hx hb d_Da_fit_10 (by decide) ?_
  refine lv_iadd hx hb d_Da_fit_12 ?_
  obtain ⟨r_2, S_2, hc_2, h⟩ := lf_cE h
  have hFc := lx_free hD hS hA
  refine va_calli (va_runV (As := [.int (p1 + 14)]) (rest := [.int r_1]) ⟨hx, hb, hml, hown, hts⟩ (l_Dk_two l dC dI X _ hc_2) (cwV 1 hts (gwV good_Vq (u_Vq_Da _ k_Da_3) (u_Vq_Dk _ k_Dk_17) (u_Vq_Dk _ k_Dk_18) (u_Vq_Dk _ k_Dk_0) (wcs (u_Vq_Dk _ k_Dk_19) (fun _ h => h))) rfl rfl rfl (by decide +kernel) ⟨Nat.le_of_ble_eq_true rfl, Nat.le_of_ble_eq_true rfl⟩) (pv_ofE (X.same _) (fun U z1 z2 => X.mono _ _ U hFc (hEw _ _ hS U z1 z2)) hP hK hD (va_recv hK hP (ci := 0) (q0 := 1) rfl rfl)) rfl rfl hl.1 rfl (lv_room (Nat.le_of_ble_eq_true rfl)) d_Da_fit_13 ⟨by decide, by decide⟩) hS (fun q _ h => hFc q h) hFc (fun r_ u t H locs ht hvm hw hB hz1 hk1 hS => ?_)
  rw [hw]
  obtain ⟨hP, -, hD⟩ := hB
  rw [ht] at hP
  have hD := lx_dj hD hFc
  refine lv_aload_n hx hb d_Da_fit_16 rfl (lv_at hl 0 rfl) ?_
  refine lv_iload_n hx hb d_Da_fit_17 rfl (lv_at hl 1 rfl) ?_
  refine lv_bipush (v := 13) hx hb d_Da_fit_18 (by decide) ?_
  refine lv_iadd hx hb d_Da_fit_20 ?_
  obtain ⟨r_3, S_3, hc_3, h⟩ := lf_cE h
  have hFc := lx_free hD hS hA
  refine va_calli (va_runV (As := [.int (p1 + 13)]) (rest := [.int r_2, .int r_1]) ⟨hx, hb, hml, hown, hts⟩ (l_Dk_one l dC dI X _ hc_3) (cwV 1 hts (gwV good_Vq (u_Vq_Da _ k_Da_4) (u_Vq_Dk _ k_Dk_20) (u_Vq_Dk _ k_Dk_21) (u_Vq_Dk _ k_Dk_0) (wcs (u_Vq_Dk _ k_Dk_22) (fun _ h => h))) rfl rfl rfl (by decide +kernel) ⟨Nat.le_of_ble_eq_true rfl, Nat.le_of_ble_eq_true rfl⟩) (pv_ofE (X.same _) (fun U z1 z2 => X.mono _ _ U hFc (hEw _ _ hS U z1 z2)) hP hK hD (va_recv hK hP (ci := 0) (q0 := 1) rfl rfl)) rfl rfl hl.1 rfl (lv_room (Nat.le_of_ble_eq_true rfl)) d_Da_fit_21 ⟨by decide, by decide⟩) hS (fun q _ h => hFc q h) hFc (fun r_ u t H locs ht hvm hw hB hz1 hk1 hS => ?_)
  rw [hw]
  obtain ⟨hP, -, hD⟩ := hB
  rw [ht] at hP
  have hD := lx_dj hD hFc
  obtain ⟨r_4, hc_4, h⟩ := lf_bE h
  have hFc := lx_free0 hS hA
  refine va_calli (va_runS (As := [.int r_1, .int r_2, .int r_3]) (rest := []) ⟨hx, hb, hml, hown, hts⟩ (l_Da_madeFits l dC dI X _ hc_4) (va_cwS 3 hts (gwS good_Vq (u_Vq_Da _ k_Da_5) (u_Vq_Da _ k_Da_6) (u_Vq_Da _ k_Da_0) (wcs (u_Vq_Da _ k_Da_7) (fun _ h => h))) rfl rfl rfl (by decide +kernel) ⟨Nat.le_of_ble_eq_true rfl, Nat.le_of_ble_eq_true rfl⟩) (ps_ofE2 (W := []) (tys := []) (X.same _) (fun U z1 z2 => X.mono _ _ U hFc (hEw _ _ hS U z1 z2)) (hP.sub (ws' := []) [] rfl) (hK.sub [] rfl) (hD.sub (ws' := []) [] (by decide) rfl)) rfl rfl hl.1 rfl (lv_room (Nat.le_of_ble_eq_true rfl)) d_Da_fit_24 ⟨by decide, by decide⟩) hS (fun q _ h => hFc q h) hFc (fun r_ u t H locs ht hvm hw hB hz1 hk1 hS => ?_)
  rw [hw]
  have hP := lx_stat (A := A) hP hk1
  refine lv_if_eq (tgt := 76) hx hb d_Da_fit_27 (by decide) (fun c_5 => ?_) (fun c_5 => ?_)
  · have h := lf_t h c_5
    exact hB_76 S_3 _ _ _ h hP hD hS (lv_sub hl [] rfl)
  · have h := lf_f h c_5
    refine lv_aload_n hx hb d_Da_fit_30 rfl (lv_at hl 0 rfl) ?_
    refine lv_iload_n hx hb d_Da_fit_31 rfl (lv_at hl 1 rfl) ?_
    refine lv_bipush (v := 18) hx hb d_Da_fit_32 (by decide) ?_
    refine lv_iadd hx hb d_Da_fit_34 ?_
    obtain ⟨r_6, S_6, hc_6, h⟩ := lf_cE h
    have hFc := lx_free hD hS hA
    refine va_calli (va_runV (As := [.int (p1 + 18)]) (rest := []) ⟨hx, hb, hml, hown, hts⟩ (l_Dk_two l dC dI X _ hc_6) (cwV 1 hts (gwV good_Vq (u_Vq_Da _ k_Da_3) (u_Vq_Dk _ k_Dk_17) (u_Vq_Dk _ k_Dk_18) (u_Vq_Dk _ k_Dk_0) (wcs (u_Vq_Dk _ k_Dk_19) (fun _ h => h))) rfl rfl rfl (by decide +kernel) ⟨Nat.le_of_ble_eq_true rfl, Nat.le_of_ble_eq_true rfl⟩) (pv_ofE (X.same _) (fun U z1 z2 => X.mono _ _ U hFc (hEw _ _ hS U z1 z2)) hP hK hD (va_recv hK hP (ci := 0) (q0 := 1) rfl rfl)) rfl rfl hl.1 rfl (lv_room (Nat.le_of_ble_eq_true rfl)) d_Da_fit_35 ⟨by decide, by decide⟩) hS (fun q _ h => hFc q h) hFc (fun r_ u t H locs ht hvm hw hB hz1 hk1 hS => ?_)
    rw [hw]
    obtain ⟨hP, -, hD⟩ := hB
    rw [ht] at hP
    have hD := lx_dj hD hFc
    obtain ⟨r_7, hc_7, h⟩ := lf_bE h
    have hFc := lx_free0 hS hA
    refine va_calli (va_runS (As := [.int r_6]) (rest := []) ⟨hx, hb, hml, hown, hts⟩ (l_Da_readFits l dC dI X _ hc_7) (va_cwS 1 hts (gwS good_Vq (u_Vq_Da _ k_Da_16) (u_Vq_Da _ k_Da_17) (u_Vq_Da _ k_Da_0) (wcs (u_Vq_Da _ k_Da_18) (fun _ h => h))) rfl rfl rfl (by decide +kernel) ⟨Nat.le_of_ble_eq_true rfl, Nat.le_of_ble_eq_true rfl⟩) (ps_ofE2 (W := []) (tys := []) (X.same _) (fun U z1 z2 => X.mono _ _ U hFc (hEw _ _ hS U z1 z2)) (hP.sub (ws' := []) [] rfl) (hK.sub [] rfl) (hD.sub (ws' := []) [] (by decide) rfl)) rfl rfl hl.1 rfl (lv_room (Nat.le_of_ble_eq_true rfl)) d_Da_fit_38 ⟨by decide, by decide⟩) hS (fun q _ h => hFc q h) hFc (fun r_ u t H locs ht hvm hw hB hz1 hk1 hS => ?_)
    rw [hw]
    have hP := lx_stat (A := A) hP hk1
    refine lv_if_eq (tgt := 76) hx hb d_Da_fit_41 (by decide) (fun c_8 => ?_) (fun c_8 => ?_)
    · have h := lf_t h c_8
      exact hB_76 S_6 _ _ _ h hP hD hS (lv_sub hl [] rfl)
    · have h := lf_f h c_8
      refine lv_aload_n hx hb d_Da_fit_44 rfl (lv_at hl 0 rfl) ?_
      refine lv_iload_n hx hb d_Da_fit_45 rfl (lv_at hl 1 rfl) ?_
      refine lv_bipush (v := 24) hx hb d_Da_fit_46 (by decide) ?_
      refine lv_iadd hx hb d_Da_fit_48 ?_
      obtain ⟨r_9, S_9, hc_9, h⟩ := lf_cE h
      have hFc := lx_free hD hS hA
      refine va_calli (va_runV (As := [.int (p1 + 24)]) (rest := []) ⟨hx, hb, hml, hown, hts⟩ (l_Dk_two l dC dI X _ hc_9) (cwV 1 hts (gwV good_Vq (u_Vq_Da _ k_Da_3) (u_Vq_Dk _ k_Dk_17) (u_Vq_Dk _ k_Dk_18) (u_Vq_Dk _ k_Dk_0) (wcs (u_Vq_Dk _ k_Dk_19) (fun _ h => h))) rfl rfl rfl (by decide +kernel) ⟨Nat.le_of_ble_eq_true rfl, Nat.le_of_ble_eq_true rfl⟩) (pv_ofE (X.same _) (fun U z1 z2 => X.mono _ _ U hFc (hEw _ _ hS U z1 z2)) hP hK hD (va_recv hK hP (ci := 0) (q0 := 1) rfl rfl)) rfl rfl hl.1 rfl (lv_room (Nat.le_of_ble_eq_true rfl)) d_Da_fit_49 ⟨by decide, by decide⟩) hS (fun q _ h => hFc q h) hFc (fun r_ u t H locs ht hvm hw hB hz1 hk1 hS => ?_)
      rw [hw]
      obtain ⟨hP, -, hD⟩ := hB
      rw [ht] at hP
      have hD := lx_dj hD hFc
      obtain ⟨r_10, hc_10, h⟩ := lf_bE h
      have hFc := lx_free0 hS hA
      refine va_calli (va_runS (As := [.int r_9]) (rest := []) ⟨hx, hb, hml, hown, hts⟩ (l_Da_isDay l dC dI X _ hc_10) (va_cwS 1 hts (gwS good_Vq (u_Vq_Da _ k_Da_8) (u_Vq_Da _ k_Da_9) (u_Vq_Da _ k_Da_0) (wcs (u_Vq_Da _ k_Da_10) (fun _ h => h))) rfl rfl rfl (by decide +kernel) ⟨Nat.le_of_ble_eq_true rfl, Nat.le_of_ble_eq_true rfl⟩) (ps_ofE2 (W := []) (tys := []) (X.same _) (fun U z1 z2 => X.mono _ _ U hFc (hEw _ _ hS U z1 z2)) (hP.sub (ws' := []) [] rfl) (hK.sub [] rfl) (hD.sub (ws' := []) [] (by decide) rfl)) rfl rfl hl.1 rfl (lv_room (Nat.le_of_ble_eq_true rfl)) d_Da_fit_52 ⟨by decide, by decide⟩) hS (fun q _ h => hFc q h) hFc (fun r_ u t H locs ht hvm hw hB hz1 hk1 hS => ?_)
      rw [hw]
      have hP := lx_stat (A := A) hP hk1
      refine lv_if_eq (tgt := 76) hx hb d_Da_fit_55 (by decide) (fun c_11 => ?_) (fun c_11 => ?_)
      · have h := lf_t h c_11
        exact hB_76 S_9 _ _ _ h hP hD hS (lv_sub hl [] rfl)
      · have h := lf_f h c_11
        refine lv_aload_n hx hb d_Da_fit_58 rfl (lv_at hl 0 rfl) ?_
        refine lv_iload_n hx hb d_Da_fit_59 rfl (lv_at hl 1 rfl) ?_
        refine lv_bipush (v := 22) hx hb d_Da_fit_60 (by decide) ?_
        refine lv_iadd hx hb d_Da_fit_62 ?_
        obtain ⟨r_12, S_12, hc_12, h⟩ := lf_cE h
        have hFc := lx_free hD hS hA
        refine va_calli (va_runV (As := [.int (p1 + 22)]) (rest := []) ⟨hx, hb, hml, hown, hts⟩ (l_Dk_two l dC dI X _ hc_12) (cwV 1 hts (gwV good_Vq (u_Vq_Da _ k_Da_3) (u_Vq_Dk _ k_Dk_17) (u_Vq_Dk _ k_Dk_18) (u_Vq_Dk _ k_Dk_0) (wcs (u_Vq_Dk _ k_Dk_19) (fun _ h => h))) rfl rfl rfl (by decide +kernel) ⟨Nat.le_of_ble_eq_true rfl, Nat.le_of_ble_eq_true rfl⟩) (pv_ofE (X.same _) (fun U z1 z2 => X.mono _ _ U hFc (hEw _ _ hS U z1 z2)) hP hK hD (va_recv hK hP (ci := 0) (q0 := 1) rfl rfl)) rfl rfl hl.1 rfl (lv_room (Nat.le_of_ble_eq_true rfl)) d_Da_fit_63 ⟨by decide, by decide⟩) hS (fun q _ h => hFc q h) hFc (fun r_ u t H locs ht hvm hw hB hz1 hk1 hS => ?_)
        rw [hw]
        obtain ⟨hP, -, hD⟩ := hB
        rw [ht] at hP
        have hD := lx_dj hD hFc
        obtain ⟨r_13, hc_13, h⟩ := lf_bE h
        have hFc := lx_free0 hS hA
        refine va_calli (va_runS (As := [.int r_12]) (rest := []) ⟨hx, hb, hml, hown, hts⟩ (l_Da_isTime l dC dI  _ hc_13) (va_cwS 1 hts (gwS good_Vq (u_Vq_Da _ k_Da_13) (u_Vq_Da _ k_Da_14) (u_Vq_Da _ k_Da_0) (wcs (u_Vq_Da _ k_Da_15) (fun _ h => h))) rfl rfl rfl (by decide +kernel) ⟨Nat.le_of_ble_eq_true rfl, Nat.le_of_ble_eq_true rfl⟩) (ps_of (W := []) (tys := []) (hP.sub (ws' := []) [] rfl) (hK.sub [] rfl) (hD.sub (ws' := []) [] (by decide) rfl)) rfl rfl hl.1 rfl (lv_room (Nat.le_of_ble_eq_true rfl)) d_Da_fit_66 ⟨by decide, by decide⟩) hS (fun q _ h => hFc q h) hFc (fun r_ u t H locs ht hvm hw hB hz1 hk1 hS => ?_)
        rw [hw]
        have hP := lx_stat (A := A) hP hk1
        refine lv_if_eq (tgt := 76) hx hb d_Da_fit_69 (by decide) (fun c_14 => ?_) (fun c_14 => ?_)
        · have h := lf_t h c_14
          exact hB_76 S_12 _ _ _ h hP hD hS (lv_sub hl [] rfl)
        · have h := lf_f h c_14
          refine lv_iconst (v := 1) hx hb d_Da_fit_72 (by decide) ?_
          refine lv_goto (tgt := 77) hx hb d_Da_fit_73 (by decide) ?_
          rw [hQ]
          have e1 : (1 : Int32) = r := congrArg Prod.fst (Option.some.inj h)
          have e2 : S_12 = S' := congrArg Prod.snd (Option.some.inj h)
          have hP := ly_newP e2.symm hP
          have hD := ly_newD e2.symm hD
          exact W.zret (v := 1) hx hb hr rfl (fun t ht hW => ⟨⟨1, (), rfl, e1, by rw [ht]; exact hP, va_K.moved hW.alike hK, hD⟩, hS.F ht⟩) hS.2.2 d_Da_fit_77
set_option maxHeartbeats 4000000 in
set_option maxRecDepth 100000 in
theorem l_Da_wouldFit (l : Launch) (dC : Nat → ClassId) (dI : Nat → Nat → Nat) {K : Nat} {M : CA} {E : (Nat → Prop) → State → Prop} (X : ly_X l dC dI K M E) (sz : Nat) {Y : CT} {G : CG} {S S' : CS} {p1 : Int32} {p2 : Int32} {p3 : Int32} {p4 : Int32} {r : Int32} (h : f_Da_wouldFit K G S p1 p2 p3 p4 = some (r, S')) : Met l y_Da_wouldFit (.code y_Da_wouldFit cb_Da_wouldFit 5 (some .boolean) :: V_Vq) ({ frames := 2, cells := 0, slots := 0, locals := 46 }) (va_Pc [.ref M.o_Dk, .int p1, .int p2, .int p3, .int p4] (fun U => U.heap.size = sz ∧ at_ (dC, dI) (fun _ => True) (wV M Y G S) (tV M) U ∧ E (va_A (wV M Y G S) sz) U)) (va_Qi (fun (r_ : Int32) (u : Unit) => r_ = r) (fun (u : Unit) t => at_ (dC, dI) (va_A (wV M Y G S) sz) (wV M Y G S') (tV M) t) (va_A (wV M Y G S) sz)) 0 0 (va_A (wV M Y G S) sz) := by
  refine Met.ofW (cc := cb_Da_wouldFit) (maxL := 5) (ret := (some .boolean)) (by decide) rfl ?_
  intro p e s m args below meth c s₁ B hml hv
  obtain ⟨rfl, hsz, ⟨hP, hK, hD0⟩, hE⟩ := hv
  have hx := B.exec
  have hb := B.bytes
  have hr := B.returns
  have hts0 := atoms_spec (ws := .code y_Da_wouldFit cb_Da_wouldFit 5 (some .boolean) :: V_Vq) B.pre
  have hts : ∀ w ∈ V_Vq, w.before ([.ref M.o_Dk, .int p1, .int p2, .int p3, .int p4] : List Value).toArray s = true := fun w h => hts0 w (List.mem_cons_of_mem _ h)
  have hown : s.vm.findClass R_Da = some m.cls := findClass_of_methodNamed B.named
  subst hsz
  have hD := hD0.self (sz := s.heap.size)
  generalize hAe : va_A (wV M Y G S) s.heap.size = A at hD hE ⊢
  have hA : ∀ q : Nat, s.heap.size ≤ q → A q := fun q h => by rw [← hAe]; exact Or.inr h
  have hS : va_S A s.heap s.heap [] := va_S.rf
  have hP : va_P (dC, dI) classes (wV M Y G S) s.heap := hP
  have hK : va_K (dC, dI) classes (tV M) s := hK
  have hEw : ∀ (H : Heap) (locs : List Loc), va_S A s.heap H locs → ∀ U : State, U.heap = H → s.WarmedH U.vm → E A U := fun H locs hS U hU hW => X.kept A s U H locs hE hS hU hW
  have hl := lv_entry ([.ref M.o_Dk, .int p1, .int p2, .int p3, .int p4]) (n := 5) (Nat.le_of_ble_eq_true rfl)
  rw [lg_entry_eq]
  generalize (lg_sl ([.ref M.o_Dk, .int p1, .int p2, .int p3, .int p4]) ++ List.replicate (5 - (lg_sl ([.ref M.o_Dk, .int p1, .int p2, .int p3, .int p4])).length) Slot.unset).toArray = ls at hl ⊢
  have hl : lv_has ls 5 [(0, .ref M.o_Dk), (1, .int p1), (2, .int p2), (3, .int p3), (4, .int p4)] := hl
  refine qabs (fun Q hQ => ?_)
  have hB_67 : ∀ (S : CS) (H : Heap) (locs : List Loc) (ls : Array Slot), f_Da_wouldFit_67 K G S = some (r, S') → va_P (dC, dI) classes (wV M Y G S) H → va_D A (wV M Y G S) → va_S A s.heap H locs → lv_has ls 5 [] → W p l e ({ frames := 2, cells := 0, slots := 0, locals := 46 }) s m ([.ref M.o_Dk, .int p1, .int p2, .int p3, .int p4] : List Value).toArray below meth c H locs 0 0 Q (F0 m 67 ls []) := by
    intro S H locs ls h hP hD hS hl
    rw [f_Da_wouldFit_67] at h
    refine lv_iconst (v := 0) hx hb d_Da_wouldFit_67 (by decide) ?_
    rw [hQ]
    have e1 : (0 : Int32) = r := congrArg Prod.fst (Option.some.inj h)
    have e2 : S = S' := congrArg Prod.snd (Option.some.inj h)
    have hP := ly_newP e2.symm hP
    have hD := ly_newD e2.symm hD
    exact W.zret (v := 0) hx hb hr rfl (fun t ht hW => ⟨⟨0, (), rfl, e1, by rw [ht]; exact hP, va_K.moved hW.alike hK, hD⟩, hS.F ht⟩) hS.2.2 d_Da_wouldFit_68
  have hB_88 : ∀ (S : CS) (H : Heap) (locs : List Loc) (ls : Array Slot), f_Da_wouldFit_88 K G S = some (r, S') → va_P (dC, dI) classes (wV M Y G S) H → va_D A (wV M Y G S) → va_S A s.heap H locs → lv_has ls 5 [] → W p l e ({ frames := 2, cells := 0, slots := 0, locals := 46 }) s m ([.ref M.o_Dk, .int p1, .int p2, .int p3, .int p4] : List Value).toArray below meth c H locs 0 0 Q (F0 m 88 ls []) := by
    intro S H locs ls h hP hD hS hl
    rw [f_Da_wouldFit_88] at h
    refine lv_iconst (v := 0) hx hb d_Da_wouldFit_88 (by decide) ?_
    rw [hQ]
    have e1 : (0 : Int32) = r := congrArg Prod.fst (Option.some.inj h)
    have e2 : S = S' := congrArg Prod.snd (Option.some.inj h)
    have hP := ly_newP e2.symm hP
    have hD := ly_newD e2.symm hD
    exact W.zret (v := 0) hx hb hr rfl (fun t ht hW => ⟨⟨0, (), rfl, e1, by rw [ht]; exact hP, va_K.moved hW.alike hK, hD⟩, hS.F ht⟩) hS.2.2 d_Da_wouldFit_89
  have hB_123 : ∀ (S : CS) (H : Heap) (locs : List Loc) (ls : Array Slot), f_Da_wouldFit_123 K G S = some (r, S') → va_P (dC, dI) classes (wV M Y G S) H → va_D A (wV M Y G S) → va_S A s.heap H locs → lv_has ls 5 [] → W p l e ({ frames := 2, cells := 0, slots := 0, locals := 46 }) s m ([.ref M.o_Dk, .int p1, .int p2, .int p3, .int p4] : List Value).toArray below meth c H locs 0 0 Q (F0 m 123 ls []) := by
    intro S H locs ls h hP hD hS hl
    rw [f_Da_wouldFit_123] at h
    refine lv_iconst (v := 1) hx hb d_Da_wouldFit_123 (by decide) ?_
    refine lv_goto (tgt := 128) hx hb d_Da_wouldFit_124 (by decide) ?_
    rw [hQ]
    have e1 : (1 : Int32) = r := congrArg Prod.fst (Option.some.inj h)
    have e2 : S = S' := congrArg Prod.snd (Option.some.inj h)
    have hP := ly_newP e2.symm hP
    have hD := ly_newD e2.symm hD
    exact W.zret (v := 1) hx hb hr rfl (fun t ht hW => ⟨⟨1, (), rfl, e1, by rw [ht]; exact hP, va_K.moved hW.alike hK, hD⟩, hS.F ht⟩) hS.2.2 d_Da_wouldFit_128
  rw [f_Da_wouldFit] at h
  refine lv_iload_n hx hb d_Da_wouldFit_0 rfl (lv_at hl 2 rfl) ?_
  by_cases c_1 : p2 = 0
  · have h := lf_t h c_1
    refine lv_tableIn (tgt := 36) hx hb d_Da_wouldFit_1 (by rw [c_1]; decide) (by rw [c_1]; decide) (by rw [c_1]; (try rfl)) (by decide) ?_
    refine lv_iload_n hx hb d_Da_wouldFit_36 rfl (lv_at hl 3 rfl) ?_
    refine lv_iload hx hb d_Da_wouldFit_37 (lv_at hl 4 rfl) ?_
    refine lv_aload_n hx hb d_Da_wouldFit_39 rfl (lv_at hl 0 rfl) ?_
    refine lv_iload_n hx hb d_Da_wouldFit_40 rfl (lv_at hl 1 rfl) ?_
    refine lv_bipush (v := 13) hx hb d_Da_wouldFit_41 (by decide) ?_
    refine lv_iadd hx hb d_Da_wouldFit_43 ?_
    obtain ⟨r_2, S_2, hc_2, h⟩ := lf_cE h
    have hFc := lx_free hD hS hA
    refine va_calli (va_runV (As := [.int (p1 + 13)]) (rest := [.int p4, .int p3]) ⟨hx, hb, hml, hown, hts⟩ (l_Dk_one l dC dI X _ hc_2) (cwV 1 hts (gwV good_Vq (u_Vq_Da _ k_Da_4) (u_Vq_Dk _ k_Dk_20) (u_Vq_Dk _ k_Dk_21) (u_Vq_Dk _ k_Dk_0) (wcs (u_Vq_Dk _ k_Dk_22) (fun _ h => h))) rfl rfl rfl (by decide +kernel) ⟨Nat.le_of_ble_eq_true rfl, Nat.le_of_ble_eq_true rfl⟩) (pv_ofE (X.same _) (fun U z1 z2 => X.mono _ _ U hFc (hEw _ _ hS U z1 z2)) hP hK hD (va_recv hK hP (ci := 0) (q0 := 1) rfl rfl)) rfl rfl hl.1 rfl (lv_room (Nat.le_of_ble_eq_true rfl)) d_Da_wouldFit_44 ⟨by decide, by decide⟩) hS (fun q _ h => hFc q h) hFc (fun r_ u t H locs ht hvm hw hB hz1 hk1 hS => ?_)
    rw [hw]
    obtain ⟨hP, -, hD⟩ := hB
    rw [ht] at hP
    have hD := lx_dj hD hFc
    obtain ⟨r_3, hc_3, h⟩ := lf_bE h
    have hFc := lx_free0 hS hA
    refine va_calli (va_runS (As := [.int p3, .int p4, .int r_2]) (rest := []) ⟨hx, hb, hml, hown, hts⟩ (l_Da_madeFits l dC dI X _ hc_3) (va_cwS 3 hts (gwS good_Vq (u_Vq_Da _ k_Da_5) (u_Vq_Da _ k_Da_6) (u_Vq_Da _ k_Da_0) (wcs (u_Vq_Da _ k_Da_7) (fun _ h => h))) rfl rfl rfl (by decide +kernel) ⟨Nat.le_of_ble_eq_true rfl, Nat.le_of_ble_eq_true rfl⟩) (ps_ofE2 (W := []) (tys := []) (X.same _) (fun U z1 z2 => X.mono _ _ U hFc (hEw _ _ hS U z1 z2)) (hP.sub (ws' := []) [] rfl) (hK.sub [] rfl) (hD.sub (ws' := []) [] (by decide) rfl)) rfl rfl hl.1 rfl (lv_room (Nat.le_of_ble_eq_true rfl)) d_Da_wouldFit_47 ⟨by decide, by decide⟩) hS (fun q _ h => hFc q h) hFc (fun r_ u t H locs ht hvm hw hB hz1 hk1 hS => ?_)
    rw [hw]
    have hP := lx_stat (A := A) hP hk1
    obtain ⟨g_4, h⟩ := lf_gE h
    rw [hQ]
    have e1 : r_3 = r := congrArg Prod.fst (Option.some.inj h)
    have e2 : S_2 = S' := congrArg Prod.snd (Option.some.inj h)
    have hP := ly_newP e2.symm hP
    have hD := ly_newD e2.symm hD
    exact W.zret (v := r_3) hx hb hr (lf_nz g_4) (fun t ht hW => ⟨⟨r_3, (), rfl, e1, by rw [ht]; exact hP, va_K.moved hW.alike hK, hD⟩, hS.F ht⟩) hS.2.2 d_Da_wouldFit_50
  · have h := lf_f h c_1
    by_cases c_5 : p2 = 1
    · have h := lf_t h c_5
      refine lv_tableIn (tgt := 51) hx hb d_Da_wouldFit_1 (by rw [c_5]; decide) (by rw [c_5]; decide) (by rw [c_5]; (try rfl)) (by decide) ?_
      refine lv_iload_n hx hb d_Da_wouldFit_51 rfl (lv_at hl 3 rfl) ?_
      obtain ⟨r_6, hc_6, h⟩ := lf_bE h
      have hFc := lx_free0 hS hA
      refine va_calli (va_runS (As := [.int p3]) (rest := []) ⟨hx, hb, hml, hown, hts⟩ (l_Da_readFits l dC dI X _ hc_6) (va_cwS 1 hts (gwS good_Vq (u_Vq_Da _ k_Da_16) (u_Vq_Da _ k_Da_17) (u_Vq_Da _ k_Da_0) (wcs (u_Vq_Da _ k_Da_18) (fun _ h => h))) rfl rfl rfl (by decide +kernel) ⟨Nat.le_of_ble_eq_true rfl, Nat.le_of_ble_eq_true rfl⟩) (ps_ofE2 (W := []) (tys := []) (X.same _) (fun U z1 z2 => X.mono _ _ U hFc (hEw _ _ hS U z1 z2)) (hP.sub (ws' := []) [] rfl) (hK.sub [] rfl) (hD.sub (ws' := []) [] (by decide) rfl)) rfl rfl hl.1 rfl (lv_room (Nat.le_of_ble_eq_true rfl)) d_Da_wouldFit_52 ⟨by decide, by decide⟩) hS (fun q _ h => hFc q h) hFc (fun r_ u t H locs ht hvm hw hB hz1 hk1 hS => ?_)
      rw [hw]
      have hP := lx_stat (A := A) hP hk1
      refine lv_if_eq (tgt := 67) hx hb d_Da_wouldFit_55 (by decide) (fun c_7 => ?_) (fun c_7 => ?_)
      · have h := lf_t h c_7
        exact hB_67 S _ _ _ h hP hD hS (lv_sub hl [] rfl)
      · have h := lf_f h c_7
        refine lv_iload hx hb d_Da_wouldFit_58 (lv_at hl 4 rfl) ?_
        refine lv_if_ne (tgt := 67) hx hb d_Da_wouldFit_60 (by decide) (fun c_8 => ?_) (fun c_8 => ?_)
        · have h := lf_f h c_8
          exact hB_67 S _ _ _ h hP hD hS (lv_sub hl [] rfl)
        · have h := lf_t h c_8
          refine lv_iconst (v := 1) hx hb d_Da_wouldFit_63 (by decide) ?_
          refine lv_goto (tgt := 68) hx hb d_Da_wouldFit_64 (by decide) ?_
          rw [hQ]
          have e1 : (1 : Int32) = r := congrArg Prod.fst (Option.some.inj h)
          have e2 : S = S' := congrArg Prod.snd (Option.some.inj h)
          have hP := ly_newP e2.symm hP
          have hD := ly_newD e2.symm hD
          exact W.zret (v := 1) hx hb hr rfl (fun t ht hW => ⟨⟨1, (), rfl, e1, by rw [ht]; exact hP, va_K.moved hW.alike hK, hD⟩, hS.F ht⟩) hS.2.2 d_Da_wouldFit_68
    · have h := lf_f h c_5
      by_cases c_9 : p2 = 2
      · have h := lf_t h c_9
        refine lv_tableIn (tgt := 69) hx hb d_Da_wouldFit_1 (by rw [c_9]; decide) (by rw [c_9]; decide) (by rw [c_9]; (try rfl)) (by decide) ?_
        refine lv_iload_n hx hb d_Da_wouldFit_69 rfl (lv_at hl 3 rfl) ?_
        obtain ⟨r_10, hc_10, h⟩ := lf_bE h
        have hFc := lx_free0 hS hA
        refine va_calli (va_runS (As := [.int p3]) (rest := []) ⟨hx, hb, hml, hown, hts⟩ (l_Da_isDay l dC dI X _ hc_10) (va_cwS 1 hts (gwS good_Vq (u_Vq_Da _ k_Da_8) (u_Vq_Da _ k_Da_9) (u_Vq_Da _ k_Da_0) (wcs (u_Vq_Da _ k_Da_10) (fun _ h => h))) rfl rfl rfl (by decide +kernel) ⟨Nat.le_of_ble_eq_true rfl, Nat.le_of_ble_eq_true rfl⟩) (ps_ofE2 (W := []) (tys := []) (X.same _) (fun U z1 z2 => X.mono _ _ U hFc (hEw _ _ hS U z1 z2)) (hP.sub (ws' := []) [] rfl) (hK.sub [] rfl) (hD.sub (ws' := []) [] (by decide) rfl)) rfl rfl hl.1 rfl (lv_room (Nat.le_of_ble_eq_true rfl)) d_Da_wouldFit_70 ⟨by decide, by decide⟩) hS (fun q _ h => hFc q h) hFc (fun r_ u t H locs ht hvm hw hB hz1 hk1 hS => ?_)
        rw [hw]
        have hP := lx_stat (A := A) hP hk1
        refine lv_if_eq (tgt := 88) hx hb d_Da_wouldFit_73 (by decide) (fun c_11 => ?_) (fun c_11 => ?_)
        · have h := lf_t h c_11
          exact hB_88 S _ _ _ h hP hD hS (lv_sub hl [] rfl)
        · have h := lf_f h c_11
          refine lv_iload hx hb d_Da_wouldFit_76 (lv_at hl 4 rfl) ?_
          obtain ⟨r_12, hc_12, h⟩ := lf_bE h
          have hFc := lx_free0 hS hA
          refine va_calli (va_runS (As := [.int p4]) (rest := []) ⟨hx, hb, hml, hown, hts⟩ (l_Da_isTime l dC dI  _ hc_12) (va_cwS 1 hts (gwS good_Vq (u_Vq_Da _ k_Da_13) (u_Vq_Da _ k_Da_14) (u_Vq_Da _ k_Da_0) (wcs (u_Vq_Da _ k_Da_15) (fun _ h => h))) rfl rfl rfl (by decide +kernel) ⟨Nat.le_of_ble_eq_true rfl, Nat.le_of_ble_eq_true rfl⟩) (ps_of (W := []) (tys := []) (hP.sub (ws' := []) [] rfl) (hK.sub [] rfl) (hD.sub (ws' := []) [] (by decide) rfl)) rfl rfl hl.1 rfl (lv_room (Nat.le_of_ble_eq_true rfl)) d_Da_wouldFit_78 ⟨by decide, by decide⟩) hS (fun q _ h => hFc q h) hFc (fun r_ u t H locs ht hvm hw hB hz1 hk1 hS => ?_)
          rw [hw]
          have hP := lx_stat (A := A) hP hk1
          refine lv_if_eq (tgt := 88) hx hb d_Da_wouldFit_81 (by decide) (fun c_13 => ?_) (fun c_13 => ?_)
          · have h := lf_t h c_13
            exact hB_88 S _ _ _ h hP hD hS (lv_sub hl [] rfl)
          · have h := lf_f h c_13
            refine lv_iconst (v := 1) hx hb d_Da_wouldFit_84 (by decide) ?_
            refine lv_goto (tgt := 89) hx hb d_Da_wouldFit_85 (by decide) ?_
            rw [hQ]
            have e1 : (1 : Int32) = r := congrArg Prod.fst (Option.some.inj h)
            have e2 : S = S' := congrArg Prod.snd (Option.some.inj h)
            have hP := ly_newP e2.symm hP
            have hD := ly_newD e2.symm hD
            exact W.zret (v := 1) hx hb hr rfl (fun t ht hW => ⟨⟨1, (), rfl, e1, by rw [ht]; exact hP, va_K.moved hW.alike hK, hD⟩, hS.F ht⟩) hS.2.2 d_Da_wouldFit_89
      · have h := lf_f h c_9
        by_cases c_14 : p2 = 3
        · have h := lf_t h c_14
          refine lv_tableIn (tgt := 90) hx hb d_Da_wouldFit_1 (by rw [c_14]; decide) (by rw [c_14]; decide) (by rw [c_14]; (try rfl)) (by decide) ?_
          refine lv_aload_n hx hb d_Da_wouldFit_90 rfl (lv_at hl 0 rfl) ?_
          refine lv_iload_n hx hb d_Da_wouldFit_91 rfl (lv_at hl 1 rfl) ?_
          refine lv_bipush (v := 16) hx hb d_Da_wouldFit_92 (by decide) ?_
          refine lv_iadd hx hb d_Da_wouldFit_94 ?_
          obtain ⟨r_15, S_15, hc_15, h⟩ := lf_cE h
          have hFc := lx_free hD hS hA
          refine va_calli (va_runV (As := [.int (p1 + 16)]) (rest := []) ⟨hx, hb, hml, hown, hts⟩ (l_Dk_two l dC dI X _ hc_15) (cwV 1 hts (gwV good_Vq (u_Vq_Da _ k_Da_3) (u_Vq_Dk _ k_Dk_17) (u_Vq_Dk _ k_Dk_18) (u_Vq_Dk _ k_Dk_0) (wcs (u_Vq_Dk _ k_Dk_19) (fun _ h => h))) rfl rfl rfl (by decide +kernel) ⟨Nat.le_of_ble_eq_true rfl, Nat.le_of_ble_eq_true rfl⟩) (pv_ofE (X.same _) (fun U z1 z2 => X.mono _ _ U hFc (hEw _ _ hS U z1 z2)) hP hK hD (va_recv hK hP (ci := 0) (q0 := 1) rfl rfl)) rfl rfl hl.1 rfl (lv_room (Nat.le_of_ble_eq_true rfl)) d_Da_wouldFit_95 ⟨by decide, by decide⟩) hS (fun q _ h => hFc q h) hFc (fun r_ u t H locs ht hvm hw hB hz1 hk1 hS => ?_)
          rw [hw]
          obtain ⟨hP, -, hD⟩ := hB
          rw [ht] at hP
          have hD := lx_dj hD hFc
          refine lv_aload_n hx hb d_Da_wouldFit_98 rfl (lv_at hl 0 rfl) ?_
          refine lv_iload_n hx hb d_Da_wouldFit_99 rfl (lv_at hl 1 rfl) ?_
          refine lv_bipush (v := 14) hx hb d_Da_wouldFit_100 (by decide) ?_
          refine lv_iadd hx hb d_Da_wouldFit_102 ?_
          obtain ⟨r_16, S_16, hc_16, h⟩ := lf_cE h
          have hFc := lx_free hD hS hA
          refine va_calli (va_runV (As := [.int (p1 + 14)]) (rest := [.int r_15]) ⟨hx, hb, hml, hown, hts⟩ (l_Dk_two l dC dI X _ hc_16) (cwV 1 hts (gwV good_Vq (u_Vq_Da _ k_Da_3) (u_Vq_Dk _ k_Dk_17) (u_Vq_Dk _ k_Dk_18) (u_Vq_Dk _ k_Dk_0) (wcs (u_Vq_Dk _ k_Dk_19) (fun _ h => h))) rfl rfl rfl (by decide +kernel) ⟨Nat.le_of_ble_eq_true rfl, Nat.le_of_ble_eq_true rfl⟩) (pv_ofE (X.same _) (fun U z1 z2 => X.mono _ _ U hFc (hEw _ _ hS U z1 z2)) hP hK hD (va_recv hK hP (ci := 0) (q0 := 1) rfl rfl)) rfl rfl hl.1 rfl (lv_room (Nat.le_of_ble_eq_true rfl)) d_Da_wouldFit_103 ⟨by decide, by decide⟩) hS (fun q _ h => hFc q h) hFc (fun r_ u t H locs ht hvm hw hB hz1 hk1 hS => ?_)
          rw [hw]
          obtain ⟨hP, -, hD⟩ := hB
          rw [ht] at hP
          have hD := lx_dj hD hFc
          refine lv_iload hx hb d_Da_wouldFit_106 (lv_at hl 4 rfl) ?_
          obtain ⟨r_17, hc_17, h⟩ := lf_bE h
          have hFc := lx_free0 hS hA
          refine va_calli (va_runS (As := [.int r_15, .int r_16, .int p4]) (rest := []) ⟨hx, hb, hml, hown, hts⟩ (l_Da_madeFits l dC dI X _ hc_17) (va_cwS 3 hts (gwS good_Vq (u_Vq_Da _ k_Da_5) (u_Vq_Da _ k_Da_6) (u_Vq_Da _ k_Da_0) (wcs (u_Vq_Da _ k_Da_7) (fun _ h => h))) rfl rfl rfl (by decide +kernel) ⟨Nat.le_of_ble_eq_true rfl, Nat.le_of_ble_eq_true rfl⟩) (ps_ofE2 (W := []) (tys := []) (X.same _) (fun U z1 z2 => X.mono _ _ U hFc (hEw _ _ hS U z1 z2)) (hP.sub (ws' := []) [] rfl) (hK.sub [] rfl) (hD.sub (ws' := []) [] (by decide) rfl)) rfl rfl hl.1 rfl (lv_room (Nat.le_of_ble_eq_true rfl)) d_Da_wouldFit_108 ⟨by decide, by decide⟩) hS (fun q _ h => hFc q h) hFc (fun r_ u t H locs ht hvm hw hB hz1 hk1 hS => ?_)
          rw [hw]
          have hP := lx_stat (A := A) hP hk1
          obtain ⟨g_18, h⟩ := lf_gE h
          rw [hQ]
          have e1 : r_17 = r := congrArg Prod.fst (Option.some.inj h)
          have e2 : S_16 = S' := congrArg Prod.snd (Option.some.inj h)
          have hP := ly_newP e2.symm hP
          have hD := ly_newD e2.symm hD
          exact W.zret (v := r_17) hx hb hr (lf_nz g_18) (fun t ht hW => ⟨⟨r_17, (), rfl, e1, by rw [ht]; exact hP, va_K.moved hW.alike hK, hD⟩, hS.F ht⟩) hS.2.2 d_Da_wouldFit_111
        · have h := lf_f h c_14
          by_cases c_19 : p2 = 4
          · have h := lf_t h c_19
            refine lv_tableIn (tgt := 112) hx hb d_Da_wouldFit_1 (by rw [c_19]; decide) (by rw [c_19]; decide) (by rw [c_19]; (try rfl)) (by decide) ?_
            refine lv_iload hx hb d_Da_wouldFit_112 (lv_at hl 4 rfl) ?_
            refine lv_if_eq (tgt := 123) hx hb d_Da_wouldFit_114 (by decide) (fun c_20 => ?_) (fun c_20 => ?_)
            · have h := lf_t h c_20
              exact hB_123 S _ _ _ h hP hD hS (lv_sub hl [] rfl)
            · have h := lf_f h c_20
              refine lv_iload hx hb d_Da_wouldFit_117 (lv_at hl 4 rfl) ?_
              refine lv_iconst (v := 1) hx hb d_Da_wouldFit_119 (by decide) ?_
              refine lv_icmp_ne (tgt := 127) hx hb d_Da_wouldFit_120 (by decide) (fun c_21 => ?_) (fun c_21 => ?_)
              · have h := lf_f h c_21
                refine lv_iconst (v := 0) hx hb d_Da_wouldFit_127 (by decide) ?_
                rw [hQ]
                have e1 : (0 : Int32) = r := congrArg Prod.fst (Option.some.inj h)
                have e2 : S = S' := congrArg Prod.snd (Option.some.inj h)
                have hP := ly_newP e2.symm hP
                have hD := ly_newD e2.symm hD
                exact W.zret (v := 0) hx hb hr rfl (fun t ht hW => ⟨⟨0, (), rfl, e1, by rw [ht]; exact hP, va_K.moved hW.alike hK, hD⟩, hS.F ht⟩) hS.2.2 d_Da_wouldFit_128
              · have h := lf_t h c_21
                exact hB_123 S _ _ _ h hP hD hS (lv_sub hl [] rfl)
          · have h := lf_f h c_19
            refine lv_tableOut (tgt := 129) hx hb d_Da_wouldFit_1 (by have n0 := lv_neT (a := 0) c_1 (by decide); have n1 := lv_neT (a := 1) c_5 (by decide); have n2 := lv_neT (a := 2) c_9 (by decide); have n3 := lv_neT (a := 3) c_14 (by decide); have n4 := lv_neT (a := 4) c_19 (by decide); omega) (by decide) ?_
            refine lv_iconst (v := 0) hx hb d_Da_wouldFit_129 (by decide) ?_
            rw [hQ]
            have e1 : (0 : Int32) = r := congrArg Prod.fst (Option.some.inj h)
            have e2 : S = S' := congrArg Prod.snd (Option.some.inj h)
            have hP := ly_newP e2.symm hP
            have hD := ly_newD e2.symm hD
            exact W.zret (v := 0) hx hb hr rfl (fun t ht hW => ⟨⟨0, (), rfl, e1, by rw [ht]; exact hP, va_K.moved hW.alike hK, hD⟩, hS.F ht⟩) hS.2.2 d_Da_wouldFit_130
set_option maxHeartbeats 4000000 in
set_option maxRecDepth 100000 in
theorem l_Da_daysFrom1970 (l : Launch) (dC : Nat → ClassId) (dI : Nat → Nat → Nat) {K : Nat} {M : CA} {E : (Nat → Prop) → State → Prop} (X : ly_X l dC dI K M E) (sz : Nat) {p0 : Int32} {r : Int32} (h : f_Da_daysFrom1970 K p0 = some r) : Met l y_Da_daysFrom1970 (.code y_Da_daysFrom1970 b_Da_daysFrom1970 5 (some .int) :: V_Vq) ({ frames := 0, cells := 0, slots := 0, locals := 0 }) (va_Pc [.int p0] (fun U => U.heap.size = sz ∧ at_ (dC, dI) (fun _ => True) [] [] U ∧ E (va_A [] sz) U)) (va_Qi (fun (r_ : Int32) (u : Unit) => r_ = r) (fun (u : Unit) t => at_ (dC, dI) (va_A [] sz) [] [] t) (va_A [] sz)) 0 0 (va_A [] sz) := by
  refine Met.ofW (cc := b_Da_daysFrom1970) (maxL := 5) (ret := (some .int)) (by decide) rfl ?_
  intro p e s m args below meth c s₁ B hml hv
  obtain ⟨rfl, hsz, ⟨hP, hK, hD0⟩, hE⟩ := hv
  have hx := B.exec
  have hb := B.bytes
  have hr := B.returns
  have hts0 := atoms_spec (ws := .code y_Da_daysFrom1970 b_Da_daysFrom1970 5 (some .int) :: V_Vq) B.pre
  have hts : ∀ w ∈ V_Vq, w.before ([.int p0] : List Value).toArray s = true := fun w h => hts0 w (List.mem_cons_of_mem _ h)
  have hown : s.vm.findClass R_Da = some m.cls := findClass_of_methodNamed B.named
  subst hsz
  have hD := hD0.self (sz := s.heap.size)
  generalize hAe : va_A [] s.heap.size = A at hD hE ⊢
  have hA : ∀ q : Nat, s.heap.size ≤ q → A q := fun q h => by rw [← hAe]; exact Or.inr h
  have hS : va_S A s.heap s.heap [] := va_S.rf
  have hP : va_P (dC, dI) classes [] s.heap := hP
  have hK : va_K (dC, dI) classes [] s := hK
  have hEw : ∀ (H : Heap) (locs : List Loc), va_S A s.heap H locs → ∀ U : State, U.heap = H → s.WarmedH U.vm → E A U := fun H locs hS U hU hW => X.kept A s U H locs hE hS hU hW
  have hl := lv_entry ([.int p0]) (n := 5) (Nat.le_of_ble_eq_true rfl)
  rw [lg_entry_eq]
  generalize (lg_sl ([.int p0]) ++ List.replicate (5 - (lg_sl ([.int p0])).length) Slot.unset).toArray = ls at hl ⊢
  have hl : lv_has ls 5 [(0, .int p0)] := hl
  refine qabs (fun Q hQ => ?_)
  have hB_27 : ∀ (H : Heap) (locs : List Loc) (ls : Array Slot), f_Da_daysFrom1970_27 K = some r → va_P (dC, dI) classes [] H → va_D A [] → va_S A s.heap H locs → lv_has ls 5 [] → W p l e ({ frames := 0, cells := 0, slots := 0, locals := 0 }) s m ([.int p0] : List Value).toArray below meth c H locs 0 0 Q (F0 m 27 ls []) := by
    intro  H locs ls h hP hD hS hl
    rw [f_Da_daysFrom1970_27] at h
    refine lv_iconst (v := 0) hx hb d_Da_daysFrom1970_27 (by decide) ?_
    rw [hQ]
    have e1 : (0 : Int32) = r := Option.some.inj h
    exact W.iret (v := 0) hx hb hr (fun t ht hW => ⟨⟨0, (), rfl, e1, by rw [ht]; exact hP, va_K.moved hW.alike hK, hD⟩, hS.F ht⟩) hS.2.2 d_Da_daysFrom1970_28
  have hB_41 : ∀ (y_0 : Int32) (y_1 : Int32) (y_2 : Int32) (z_0 : Int32) (H : Heap) (locs : List Loc) (ls : Array Slot), f_Da_daysFrom1970_41 K y_0 y_1 y_2 z_0 = some r → va_P (dC, dI) classes [] H → va_D A [] → va_S A s.heap H locs → lv_has ls 5 [(0, .int y_0), (1, .int y_1), (2, .int y_2)] → W p l e ({ frames := 0, cells := 0, slots := 0, locals := 0 }) s m ([.int p0] : List Value).toArray below meth c H locs 0 0 Q (F0 m 41 ls [.int z_0]) := by
    intro y_0 y_1 y_2 z_0 H locs ls h hP hD hS hl
    rw [f_Da_daysFrom1970_41] at h
    refine lv_istore_n (lv' := [(3, .int z_0), (0, .int y_0), (1, .int y_1), (2, .int y_2)]) hx hb d_Da_daysFrom1970_41 rfl hl (by decide) rfl (fun ls hl => ?_)
    refine lv_iload_n hx hb d_Da_daysFrom1970_42 rfl (lv_at hl 0 rfl) ?_
    refine lv_iconst (v := 4) hx hb d_Da_daysFrom1970_43 (by decide) ?_
    refine lv_idiv hx hb d_Da_daysFrom1970_44 (by decide) ?_
    refine lv_iload_n hx hb d_Da_daysFrom1970_45 rfl (lv_at hl 0 rfl) ?_
    refine lv_bipush (v := 100) hx hb d_Da_daysFrom1970_46 (by decide) ?_
    refine lv_idiv hx hb d_Da_daysFrom1970_48 (by decide) ?_
    refine lv_isub hx hb d_Da_daysFrom1970_49 ?_
    refine lv_iload_n hx hb d_Da_daysFrom1970_50 rfl (lv_at hl 0 rfl) ?_
    refine lv_sipush (v := 400) hx hb d_Da_daysFrom1970_51 (by decide) ?_
    refine lv_idiv hx hb d_Da_daysFrom1970_54 (by decide) ?_
    refine lv_iadd hx hb d_Da_daysFrom1970_55 ?_
    refine lv_sipush (v := 477) hx hb d_Da_daysFrom1970_56 (by decide) ?_
    refine lv_isub hx hb d_Da_daysFrom1970_59 ?_
    refine lv_topi (fun x_6 ex_6 => ?_)
    have h := lf_lE h ex_6
    refine lv_istore (lv' := [(4, .int x_6), (3, .int z_0), (0, .int y_0), (1, .int y_1), (2, .int y_2)]) hx hb d_Da_daysFrom1970_60 hl (by decide) rfl (fun ls hl => ?_)
    refine lv_iload_n hx hb d_Da_daysFrom1970_62 rfl (lv_at hl 3 rfl) ?_
    refine lv_sipush (v := 1970) hx hb d_Da_daysFrom1970_63 (by decide) ?_
    refine lv_isub hx hb d_Da_daysFrom1970_66 ?_
    refine lv_sipush (v := 365) hx hb d_Da_daysFrom1970_67 (by decide) ?_
    refine lv_imul hx hb d_Da_daysFrom1970_70 ?_
    refine lv_iload hx hb d_Da_daysFrom1970_71 (lv_at hl 0 rfl) ?_
    refine lv_iadd hx hb d_Da_daysFrom1970_73 ?_
    refine va_gets hx hb (X.bmz A s hE) hS hown (hts _ (u_Vq_Da _ k_Da_12)) (fun x h => h) d_Da_daysFrom1970_74 ?_
    refine lv_iload_n hx hb d_Da_daysFrom1970_77 rfl (lv_at hl 4 rfl) ?_
    refine lv_iconst (v := 1) hx hb d_Da_daysFrom1970_78 (by decide) ?_
    refine lv_isub hx hb d_Da_daysFrom1970_79 ?_
    obtain ⟨g_7, h⟩ := lf_gE h
    refine va_ti hx hb (X.bmt A s hE) hS g_7 rfl d_Da_daysFrom1970_80 ?_
    refine lv_iadd hx hb d_Da_daysFrom1970_81 ?_
    refine lv_iload_n hx hb d_Da_daysFrom1970_82 rfl (lv_at hl 2 rfl) ?_
    refine lv_bipush (v := 31) hx hb d_Da_daysFrom1970_83 (by decide) ?_
    refine lv_iand hx hb d_Da_daysFrom1970_85 ?_
    refine lv_iadd hx hb d_Da_daysFrom1970_86 ?_
    refine lv_iconst (v := 1) hx hb d_Da_daysFrom1970_87 (by decide) ?_
    refine lv_isub hx hb d_Da_daysFrom1970_88 ?_
    rw [hQ]
    have e1 : ((((((y_1 - 1970) * 365) + x_6) + (bmF (y_2 - 1).toNatClampNeg)) + (y_0 &&& 31)) - 1) = r := Option.some.inj h
    exact W.iret (v := ((((((y_1 - 1970) * 365) + x_6) + (bmF (y_2 - 1).toNatClampNeg)) + (y_0 &&& 31)) - 1)) hx hb hr (fun t ht hW => ⟨⟨((((((y_1 - 1970) * 365) + x_6) + (bmF (y_2 - 1).toNatClampNeg)) + (y_0 &&& 31)) - 1), (), rfl, e1, by rw [ht]; exact hP, va_K.moved hW.alike hK, hD⟩, hS.F ht⟩) hS.2.2 d_Da_daysFrom1970_89
  rw [f_Da_daysFrom1970] at h
  refine lv_sipush (v := 1980) hx hb d_Da_daysFrom1970_0 (by decide) ?_
  refine lv_iload_n hx hb d_Da_daysFrom1970_3 rfl (lv_at hl 0 rfl) ?_
  refine lv_bipush (v := 9) hx hb d_Da_daysFrom1970_4 (by decide) ?_
  refine lv_ishr hx hb d_Da_daysFrom1970_6 ?_
  refine lv_iadd hx hb d_Da_daysFrom1970_7 ?_
  refine lv_topi (fun x_1 ex_1 => ?_)
  have h := lf_lE h ex_1
  refine lv_istore_n (lv' := [(1, .int x_1), (0, .int p0)]) hx hb d_Da_daysFrom1970_8 rfl hl (by decide) rfl (fun ls hl => ?_)
  refine lv_iload_n hx hb d_Da_daysFrom1970_9 rfl (lv_at hl 1 rfl) ?_
  refine lv_iconst (v := 5) hx hb d_Da_daysFrom1970_10 (by decide) ?_
  refine lv_ishr hx hb d_Da_daysFrom1970_11 ?_
  refine lv_bipush (v := 15) hx hb d_Da_daysFrom1970_12 (by decide) ?_
  refine lv_iand hx hb d_Da_daysFrom1970_14 ?_
  refine lv_topi (fun x_2 ex_2 => ?_)
  have h := lf_lE h ex_2
  refine lv_istore_n (lv' := [(2, .int x_2), (1, .int x_1), (0, .int p0)]) hx hb d_Da_daysFrom1970_15 rfl hl (by decide) rfl (fun ls hl => ?_)
  refine lv_iload_n hx hb d_Da_daysFrom1970_16 rfl (lv_at hl 0 rfl) ?_
  refine lv_iconst (v := 1) hx hb d_Da_daysFrom1970_17 (by decide) ?_
  refine lv_icmp_lt (tgt := 27) hx hb d_Da_daysFrom1970_18 (by decide) (fun c_3 => ?_) (fun c_3 => ?_)
  · have h := lf_t h c_3
    exact hB_27 _ _ _ h hP hD hS (lv_sub hl [] rfl)
  · have h := lf_f h c_3
    refine lv_iload_n hx hb d_Da_daysFrom1970_21 rfl (lv_at hl 0 rfl) ?_
    refine lv_bipush (v := 12) hx hb d_Da_daysFrom1970_22 (by decide) ?_
    refine lv_icmp_le (tgt := 29) hx hb d_Da_daysFrom1970_24 (by decide) (fun c_4 => ?_) (fun c_4 => ?_)
    · have h := lf_t h c_4
      refine lv_iload_n hx hb d_Da_daysFrom1970_29 rfl (lv_at hl 0 rfl) ?_
      refine lv_iconst (v := 2) hx hb d_Da_daysFrom1970_30 (by decide) ?_
      refine lv_icmp_le (tgt := 38) hx hb d_Da_daysFrom1970_31 (by decide) (fun c_5 => ?_) (fun c_5 => ?_)
      · have h := lf_t h c_5
        refine lv_iload_n hx hb d_Da_daysFrom1970_38 rfl (lv_at hl 1 rfl) ?_
        refine lv_iconst (v := 1) hx hb d_Da_daysFrom1970_39 (by decide) ?_
        refine lv_isub hx hb d_Da_daysFrom1970_40 ?_
        exact hB_41 p0 x_1 x_2 (x_1 - 1) _ _ _ h hP hD hS (lv_sub hl [2, 1, 0] rfl)
      · have h := lf_f h c_5
        refine lv_iload_n hx hb d_Da_daysFrom1970_34 rfl (lv_at hl 1 rfl) ?_
        refine lv_goto (tgt := 41) hx hb d_Da_daysFrom1970_35 (by decide) ?_
        exact hB_41 p0 x_1 x_2 x_1 _ _ _ h hP hD hS (lv_sub hl [2, 1, 0] rfl)
    · have h := lf_f h c_4
      exact hB_27 _ _ _ h hP hD hS (lv_sub hl [] rfl)
set_option maxHeartbeats 4000000 in
set_option maxRecDepth 100000 in
theorem l_Da_seconds (l : Launch) (dC : Nat → ClassId) (dI : Nat → Nat → Nat) {K : Nat} {M : CA} {E : (Nat → Prop) → State → Prop} (X : ly_X l dC dI K M E) (sz : Nat) {Y : CT} {G : CG} {S S' : CS} {p1 : Int32} {p2 : Int32} {r : Int64} (h : f_Da_seconds K G S p1 p2 = some (r, S')) : Met l y_Da_seconds (.code y_Da_seconds cb_Da_seconds 6 (some .long) :: V_Vq) ({ frames := 1, cells := 0, slots := 0, locals := 24 }) (va_Pc [.ref M.o_Dk, .int p1, .int p2] (fun U => U.heap.size = sz ∧ at_ (dC, dI) (fun _ => True) (wV M Y G S) (tV M) U ∧ E (va_A (wV M Y G S) sz) U)) (va_Ql (fun (r_ : Int64) (u : Unit) => r_ = r) (fun (u : Unit) t => at_ (dC, dI) (va_A (wV M Y G S) sz) (wV M Y G S') (tV M) t) (va_A (wV M Y G S) sz)) 0 0 (va_A (wV M Y G S) sz) := by
  refine Met.ofW (cc := cb_Da_seconds) (maxL := 6) (ret := (some .long)) (by decide) rfl ?_
  intro p e s m args below meth c s₁ B hml hv
  obtain ⟨rfl, hsz, ⟨hP, hK, hD0⟩, hE⟩ := hv
  have hx := B.exec
  have hb := B.bytes
  have hr := B.returns
  have hts0 := atoms_spec (ws := .code y_Da_seconds cb_Da_seconds 6 (some .long) :: V_Vq) B.pre
  have hts : ∀ w ∈ V_Vq, w.before ([.ref M.o_Dk, .int p1, .int p2] : List Value).toArray s = true := fun w h => hts0 w (List.mem_cons_of_mem _ h)
  have hown : s.vm.findClass R_Da = some m.cls := findClass_of_methodNamed B.named
  subst hsz
  have hD := hD0.self (sz := s.heap.size)
  generalize hAe : va_A (wV M Y G S) s.heap.size = A at hD hE ⊢
  have hA : ∀ q : Nat, s.heap.size ≤ q → A q := fun q h => by rw [← hAe]; exact Or.inr h
  have hS : va_S A s.heap s.heap [] := va_S.rf
  have hP : va_P (dC, dI) classes (wV M Y G S) s.heap := hP
  have hK : va_K (dC, dI) classes (tV M) s := hK
  have hEw : ∀ (H : Heap) (locs : List Loc), va_S A s.heap H locs → ∀ U : State, U.heap = H → s.WarmedH U.vm → E A U := fun H locs hS U hU hW => X.kept A s U H locs hE hS hU hW
  have hl := lv_entry ([.ref M.o_Dk, .int p1, .int p2]) (n := 6) (Nat.le_of_ble_eq_true rfl)
  rw [lg_entry_eq]
  generalize (lg_sl ([.ref M.o_Dk, .int p1, .int p2]) ++ List.replicate (6 - (lg_sl ([.ref M.o_Dk, .int p1, .int p2])).length) Slot.unset).toArray = ls at hl ⊢
  have hl : lv_has ls 6 [(0, .ref M.o_Dk), (1, .int p1), (2, .int p2)] := hl
  refine qabs (fun Q hQ => ?_)
  have hB_97 : ∀ (y_3 : Int32) (y_4 : Int32) (y_5 : Int32) (S : CS) (H : Heap) (locs : List Loc) (ls : Array Slot), f_Da_seconds_97 K G y_3 y_4 y_5 S = some (r, S') → va_P (dC, dI) classes (wV M Y G S) H → va_D A (wV M Y G S) → va_S A s.heap H locs → lv_has ls 6 [(3, .int y_3), (4, .int y_4), (5, .int y_5)] → W p l e ({ frames := 1, cells := 0, slots := 0, locals := 24 }) s m ([.ref M.o_Dk, .int p1, .int p2] : List Value).toArray below meth c H locs 0 0 Q (F0 m 97 ls []) := by
    intro y_3 y_4 y_5 S H locs ls h hP hD hS hl
    rw [f_Da_seconds_97] at h
    refine lv_iload_n hx hb d_Da_seconds_97 rfl (lv_at hl 0 rfl) ?_
    obtain ⟨r_12, hc_12, h⟩ := lf_bE h
    have hFc := lx_free0 hS hA
    refine va_calli (va_runS (As := [.int y_3]) (rest := []) ⟨hx, hb, hml, hown, hts⟩ (l_Da_daysFrom1970 l dC dI X _ hc_12) (va_cwS 1 hts (gwS good_Vq (u_Vq_Da _ k_Da_21) (u_Vq_Da _ k_Da_22) (u_Vq_Da _ k_Da_0) (wcs (u_Vq_Da _ k_Da_23) (fun _ h => h))) rfl rfl rfl (by decide +kernel) ⟨Nat.le_of_ble_eq_true rfl, Nat.le_of_ble_eq_true rfl⟩) (ps_ofE2 (W := []) (tys := []) (X.same _) (fun U z1 z2 => X.mono _ _ U hFc (hEw _ _ hS U z1 z2)) (hP.sub (ws' := []) [] rfl) (hK.sub [] rfl) (hD.sub (ws' := []) [] (by decide) rfl)) rfl rfl hl.1 rfl (lv_room (Nat.le_of_ble_eq_true rfl)) d_Da_seconds_98 ⟨by decide, by decide⟩) hS (fun q _ h => hFc q h) hFc (fun r_ u t H locs ht hvm hw hB hz1 hk1 hS => ?_)
    rw [hw]
    have hP := lx_stat (A := A) hP hk1
    refine lv_i2l hx hb d_Da_seconds_101 rfl ?_
    refine lv_ldc2 (v := 86400) hx hb hown (hts _ (u_Vq_Da _ k_Da_24)) d_Da_seconds_102 ?_
    refine lv_lmul hx hb d_Da_seconds_105 ?_
    refine lv_iload hx hb d_Da_seconds_106 (lv_at hl 1 rfl) ?_
    refine lv_bipush (v := 11) hx hb d_Da_seconds_108 (by decide) ?_
    refine lv_ishr hx hb d_Da_seconds_110 ?_
    refine lv_sipush (v := 3600) hx hb d_Da_seconds_111 (by decide) ?_
    refine lv_imul hx hb d_Da_seconds_114 ?_
    refine lv_i2l hx hb d_Da_seconds_115 rfl ?_
    refine lv_ladd hx hb d_Da_seconds_116 ?_
    refine lv_iload hx hb d_Da_seconds_117 (lv_at hl 1 rfl) ?_
    refine lv_iconst (v := 5) hx hb d_Da_seconds_119 (by decide) ?_
    refine lv_ishr hx hb d_Da_seconds_120 ?_
    refine lv_bipush (v := 63) hx hb d_Da_seconds_121 (by decide) ?_
    refine lv_iand hx hb d_Da_seconds_123 ?_
    refine lv_bipush (v := 60) hx hb d_Da_seconds_124 (by decide) ?_
    refine lv_imul hx hb d_Da_seconds_126 ?_
    refine lv_i2l hx hb d_Da_seconds_127 rfl ?_
    refine lv_ladd hx hb d_Da_seconds_128 ?_
    refine lv_iload hx hb d_Da_seconds_129 (lv_at hl 1 rfl) ?_
    refine lv_bipush (v := 31) hx hb d_Da_seconds_131 (by decide) ?_
    refine lv_iand hx hb d_Da_seconds_133 ?_
    refine lv_iconst (v := 2) hx hb d_Da_seconds_134 (by decide) ?_
    refine lv_imul hx hb d_Da_seconds_135 ?_
    refine lv_i2l hx hb d_Da_seconds_136 rfl ?_
    refine lv_ladd hx hb d_Da_seconds_137 ?_
    refine lv_iload hx hb d_Da_seconds_138 (lv_at hl 2 rfl) ?_
    refine lv_i2l hx hb d_Da_seconds_140 rfl ?_
    refine lv_ladd hx hb d_Da_seconds_141 ?_
    rw [hQ]
    have e1 : (((((r_12.toInt64 * 86400) + (((y_4 >>> ((11 : Int32) &&& 31)) * 3600).toInt64)) + ((((y_4 >>> ((5 : Int32) &&& 31)) &&& 63) * 60).toInt64)) + (((y_4 &&& 31) * 2).toInt64)) + y_5.toInt64 : Int64) = r := congrArg Prod.fst (Option.some.inj h)
    have e2 : S = S' := congrArg Prod.snd (Option.some.inj h)
    have hP := ly_newP e2.symm hP
    have hD := ly_newD e2.symm hD
    exact W.lret (v := (((((r_12.toInt64 * 86400) + (((y_4 >>> ((11 : Int32) &&& 31)) * 3600).toInt64)) + ((((y_4 >>> ((5 : Int32) &&& 31)) &&& 63) * 60).toInt64)) + (((y_4 &&& 31) * 2).toInt64)) + y_5.toInt64)) hx hb hr (fun t ht hW => ⟨⟨(((((r_12.toInt64 * 86400) + (((y_4 >>> ((11 : Int32) &&& 31)) * 3600).toInt64)) + ((((y_4 >>> ((5 : Int32) &&& 31)) &&& 63) * 60).toInt64)) + (((y_4 &&& 31) * 2).toInt64)) + y_5.toInt64), (), rfl, e1, by rw [ht]; exact hP, va_K.moved hW.alike hK, hD⟩, hS.F ht⟩) hS.2.2 d_Da_seconds_142
  have hB_75 : ∀ (y_1 : Int32) (S : CS) (H : Heap) (locs : List Loc) (ls : Array Slot), f_Da_seconds_75 K G y_1 S = some (r, S') → va_P (dC, dI) classes (wV M Y G S) H → va_D A (wV M Y G S) → va_S A s.heap H locs → lv_has ls 6 [(0, .ref M.o_Dk), (1, .int y_1)] → W p l e ({ frames := 1, cells := 0, slots := 0, locals := 24 }) s m ([.ref M.o_Dk, .int p1, .int p2] : List Value).toArray below meth c H locs 0 0 Q (F0 m 75 ls []) := by
    intro y_1 S H locs ls h hP hD hS hl
    rw [f_Da_seconds_75] at h
    refine lv_aload_n hx hb d_Da_seconds_75 rfl (lv_at hl 0 rfl) ?_
    refine lv_iload_n hx hb d_Da_seconds_76 rfl (lv_at hl 1 rfl) ?_
    refine lv_bipush (v := 24) hx hb d_Da_seconds_77 (by decide) ?_
    refine lv_iadd hx hb d_Da_seconds_79 ?_
    obtain ⟨r_10, S_10, hc_10, h⟩ := lf_cE h
    have hFc := lx_free hD hS hA
    refine va_calli (va_runV (As := [.int (y_1 + 24)]) (rest := []) ⟨hx, hb, hml, hown, hts⟩ (l_Dk_two l dC dI X _ hc_10) (cwV 1 hts (gwV good_Vq (u_Vq_Da _ k_Da_3) (u_Vq_Dk _ k_Dk_17) (u_Vq_Dk _ k_Dk_18) (u_Vq_Dk _ k_Dk_0) (wcs (u_Vq_Dk _ k_Dk_19) (fun _ h => h))) rfl rfl rfl (by decide +kernel) ⟨Nat.le_of_ble_eq_true rfl, Nat.le_of_ble_eq_true rfl⟩) (pv_ofE (X.same _) (fun U z1 z2 => X.mono _ _ U hFc (hEw _ _ hS U z1 z2)) hP hK hD (va_recv hK hP (ci := 0) (q0 := 1) rfl rfl)) rfl rfl hl.1 rfl (lv_room (Nat.le_of_ble_eq_true rfl)) d_Da_seconds_80 ⟨by decide, by decide⟩) hS (fun q _ h => hFc q h) hFc (fun r_ u t H locs ht hvm hw hB hz1 hk1 hS => ?_)
    rw [hw]
    obtain ⟨hP, -, hD⟩ := hB
    rw [ht] at hP
    have hD := lx_dj hD hFc
    refine lv_istore_n (lv' := [(3, .int r_10), (0, .ref M.o_Dk), (1, .int y_1)]) hx hb d_Da_seconds_83 rfl hl (by decide) rfl (fun ls hl => ?_)
    refine lv_aload_n hx hb d_Da_seconds_84 rfl (lv_at hl 1 rfl) ?_
    refine lv_iload_n hx hb d_Da_seconds_85 rfl (lv_at hl 2 rfl) ?_
    refine lv_bipush (v := 22) hx hb d_Da_seconds_86 (by decide) ?_
    refine lv_iadd hx hb d_Da_seconds_88 ?_
    obtain ⟨r_11, S_11, hc_11, h⟩ := lf_cE h
    have hFc := lx_free hD hS hA
    refine va_calli (va_runV (As := [.int (y_1 + 22)]) (rest := []) ⟨hx, hb, hml, hown, hts⟩ (l_Dk_two l dC dI X _ hc_11) (cwV 1 hts (gwV good_Vq (u_Vq_Da _ k_Da_3) (u_Vq_Dk _ k_Dk_17) (u_Vq_Dk _ k_Dk_18) (u_Vq_Dk _ k_Dk_0) (wcs (u_Vq_Dk _ k_Dk_19) (fun _ h => h))) rfl rfl rfl (by decide +kernel) ⟨Nat.le_of_ble_eq_true rfl, Nat.le_of_ble_eq_true rfl⟩) (pv_ofE (X.same _) (fun U z1 z2 => X.mono _ _ U hFc (hEw _ _ hS U z1 z2)) hP hK hD (va_recv hK hP (ci := 0) (q0 := 1) rfl rfl)) rfl rfl hl.1 rfl (lv_room (Nat.le_of_ble_eq_true rfl)) d_Da_seconds_89 ⟨by decide, by decide⟩) hS (fun q _ h => hFc q h) hFc (fun r_ u t H locs ht hvm hw hB hz1 hk1 hS => ?_)
    rw [hw]
    obtain ⟨hP, -, hD⟩ := hB
    rw [ht] at hP
    have hD := lx_dj hD hFc
    refine lv_istore (lv' := [(4, .int r_11), (3, .int r_10), (0, .ref M.o_Dk), (1, .int y_1)]) hx hb d_Da_seconds_92 hl (by decide) rfl (fun ls hl => ?_)
    refine lv_iconst (v := 0) hx hb d_Da_seconds_94 (by decide) ?_
    refine lv_istore (lv' := [(5, .int 0), (4, .int r_11), (3, .int r_10), (0, .ref M.o_Dk), (1, .int y_1)]) hx hb d_Da_seconds_95 hl (by decide) rfl (fun ls hl => ?_)
    exact hB_97 r_10 r_11 0 S_11 _ _ _ h hP hD hS (lv_sub hl [2, 1, 0] rfl)
  have hB_64 : ∀ (y_1 : Int32) (y_2 : Int32) (y_3 : Int32) (y_4 : Int32) (z_0 : Int32) (S : CS) (H : Heap) (locs : List Loc) (ls : Array Slot), f_Da_seconds_64 K G y_1 y_2 y_3 y_4 z_0 S = some (r, S') → va_P (dC, dI) classes (wV M Y G S) H → va_D A (wV M Y G S) → va_S A s.heap H locs → lv_has ls 6 [(0, .ref M.o_Dk), (1, .int y_1), (2, .int y_2), (3, .int y_3), (4, .int y_4)] → W p l e ({ frames := 1, cells := 0, slots := 0, locals := 24 }) s m ([.ref M.o_Dk, .int p1, .int p2] : List Value).toArray below meth c H locs 0 0 Q (F0 m 64 ls [.int z_0]) := by
    intro y_1 y_2 y_3 y_4 z_0 S H locs ls h hP hD hS hl
    rw [f_Da_seconds_64] at h
    refine lv_istore (lv' := [(5, .int z_0), (0, .ref M.o_Dk), (1, .int y_1), (2, .int y_2), (3, .int y_3), (4, .int y_4)]) hx hb d_Da_seconds_64 hl (by decide) rfl (fun ls hl => ?_)
    refine lv_iload_n hx hb d_Da_seconds_66 rfl (lv_at hl 3 rfl) ?_
    refine lv_iconst (v := 4) hx hb d_Da_seconds_67 (by decide) ?_
    refine lv_icmp_eq (tgt := 75) hx hb d_Da_seconds_68 (by decide) (fun c_8 => ?_) (fun c_8 => ?_)
    · have h := lf_t h c_8
      exact hB_75 y_1 S _ _ _ h hP hD hS (lv_sub hl [1, 2] rfl)
    · have h := lf_f h c_8
      refine lv_iload_n hx hb d_Da_seconds_71 rfl (lv_at hl 4 rfl) ?_
      refine lv_if_ne (tgt := 97) hx hb d_Da_seconds_72 (by decide) (fun c_9 => ?_) (fun c_9 => ?_)
      · have h := lf_f h c_9
        exact hB_97 y_3 y_4 z_0 S _ _ _ h hP hD hS (lv_sub hl [4, 5, 0] rfl)
      · have h := lf_t h c_9
        exact hB_75 y_1 S _ _ _ h hP hD hS (lv_sub hl [1, 2] rfl)
  have hB_42 : ∀ (y_1 : Int32) (y_2 : Int32) (y_3 : Int32) (z_0 : Int32) (S : CS) (H : Heap) (locs : List Loc) (ls : Array Slot), f_Da_seconds_42 K G y_1 y_2 y_3 z_0 S = some (r, S') → va_P (dC, dI) classes (wV M Y G S) H → va_D A (wV M Y G S) → va_S A s.heap H locs → lv_has ls 6 [(0, .ref M.o_Dk), (1, .int y_1), (2, .int y_2), (3, .int y_3)] → W p l e ({ frames := 1, cells := 0, slots := 0, locals := 24 }) s m ([.ref M.o_Dk, .int p1, .int p2] : List Value).toArray below meth c H locs 0 0 Q (F0 m 42 ls [.int z_0]) := by
    intro y_1 y_2 y_3 z_0 S H locs ls h hP hD hS hl
    rw [f_Da_seconds_42] at h
    refine lv_istore (lv' := [(4, .int z_0), (0, .ref M.o_Dk), (1, .int y_1), (2, .int y_2), (3, .int y_3)]) hx hb d_Da_seconds_42 hl (by decide) rfl (fun ls hl => ?_)
    refine lv_iload_n hx hb d_Da_seconds_44 rfl (lv_at hl 3 rfl) ?_
    refine lv_iconst (v := 2) hx hb d_Da_seconds_45 (by decide) ?_
    refine lv_icmp_ne (tgt := 53) hx hb d_Da_seconds_46 (by decide) (fun c_6 => ?_) (fun c_6 => ?_)
    · have h := lf_f h c_6
      refine lv_aload_n hx hb d_Da_seconds_53 rfl (lv_at hl 1 rfl) ?_
      refine lv_iload_n hx hb d_Da_seconds_54 rfl (lv_at hl 2 rfl) ?_
      refine lv_bipush (v := 13) hx hb d_Da_seconds_55 (by decide) ?_
      refine lv_iadd hx hb d_Da_seconds_57 ?_
      obtain ⟨r_7, S_7, hc_7, h⟩ := lf_cE h
      have hFc := lx_free hD hS hA
      refine va_calli (va_runV (As := [.int (y_1 + 13)]) (rest := []) ⟨hx, hb, hml, hown, hts⟩ (l_Dk_one l dC dI X _ hc_7) (cwV 1 hts (gwV good_Vq (u_Vq_Da _ k_Da_4) (u_Vq_Dk _ k_Dk_20) (u_Vq_Dk _ k_Dk_21) (u_Vq_Dk _ k_Dk_0) (wcs (u_Vq_Dk _ k_Dk_22) (fun _ h => h))) rfl rfl rfl (by decide +kernel) ⟨Nat.le_of_ble_eq_true rfl, Nat.le_of_ble_eq_true rfl⟩) (pv_ofE (X.same _) (fun U z1 z2 => X.mono _ _ U hFc (hEw _ _ hS U z1 z2)) hP hK hD (va_recv hK hP (ci := 0) (q0 := 1) rfl rfl)) rfl rfl hl.1 rfl (lv_room (Nat.le_of_ble_eq_true rfl)) d_Da_seconds_58 ⟨by decide, by decide⟩) hS (fun q _ h => hFc q h) hFc (fun r_ u t H locs ht hvm hw hB hz1 hk1 hS => ?_)
      rw [hw]
      obtain ⟨hP, -, hD⟩ := hB
      rw [ht] at hP
      have hD := lx_dj hD hFc
      refine lv_bipush (v := 100) hx hb d_Da_seconds_61 (by decide) ?_
      refine lv_idiv hx hb d_Da_seconds_63 (by decide) ?_
      exact hB_64 y_1 y_2 y_3 z_0 (r_7 / 100) S_7 _ _ _ h hP hD hS (lv_sub hl [1, 2, 3, 4, 0] rfl)
    · have h := lf_t h c_6
      refine lv_iconst (v := 0) hx hb d_Da_seconds_49 (by decide) ?_
      refine lv_goto (tgt := 64) hx hb d_Da_seconds_50 (by decide) ?_
      exact hB_64 y_1 y_2 y_3 z_0 0 S _ _ _ h hP hD hS (lv_sub hl [1, 2, 3, 4, 0] rfl)
  have hB_24 : ∀ (y_1 : Int32) (y_2 : Int32) (z_0 : Int32) (S : CS) (H : Heap) (locs : List Loc) (ls : Array Slot), f_Da_seconds_24 K G y_1 y_2 z_0 S = some (r, S') → va_P (dC, dI) classes (wV M Y G S) H → va_D A (wV M Y G S) → va_S A s.heap H locs → lv_has ls 6 [(0, .ref M.o_Dk), (1, .int y_1), (2, .int y_2)] → W p l e ({ frames := 1, cells := 0, slots := 0, locals := 24 }) s m ([.ref M.o_Dk, .int p1, .int p2] : List Value).toArray below meth c H locs 0 0 Q (F0 m 24 ls [.int z_0]) := by
    intro y_1 y_2 z_0 S H locs ls h hP hD hS hl
    rw [f_Da_seconds_24] at h
    refine lv_istore_n (lv' := [(3, .int z_0), (0, .ref M.o_Dk), (1, .int y_1), (2, .int y_2)]) hx hb d_Da_seconds_24 rfl hl (by decide) rfl (fun ls hl => ?_)
    refine lv_iload_n hx hb d_Da_seconds_25 rfl (lv_at hl 3 rfl) ?_
    refine lv_iconst (v := 2) hx hb d_Da_seconds_26 (by decide) ?_
    refine lv_icmp_ne (tgt := 34) hx hb d_Da_seconds_27 (by decide) (fun c_4 => ?_) (fun c_4 => ?_)
    · have h := lf_f h c_4
      refine lv_aload_n hx hb d_Da_seconds_34 rfl (lv_at hl 1 rfl) ?_
      refine lv_iload_n hx hb d_Da_seconds_35 rfl (lv_at hl 2 rfl) ?_
      refine lv_bipush (v := 14) hx hb d_Da_seconds_36 (by decide) ?_
      refine lv_iadd hx hb d_Da_seconds_38 ?_
      obtain ⟨r_5, S_5, hc_5, h⟩ := lf_cE h
      have hFc := lx_free hD hS hA
      refine va_calli (va_runV (As := [.int (y_1 + 14)]) (rest := []) ⟨hx, hb, hml, hown, hts⟩ (l_Dk_two l dC dI X _ hc_5) (cwV 1 hts (gwV good_Vq (u_Vq_Da _ k_Da_3) (u_Vq_Dk _ k_Dk_17) (u_Vq_Dk _ k_Dk_18) (u_Vq_Dk _ k_Dk_0) (wcs (u_Vq_Dk _ k_Dk_19) (fun _ h => h))) rfl rfl rfl (by decide +kernel) ⟨Nat.le_of_ble_eq_true rfl, Nat.le_of_ble_eq_true rfl⟩) (pv_ofE (X.same _) (fun U z1 z2 => X.mono _ _ U hFc (hEw _ _ hS U z1 z2)) hP hK hD (va_recv hK hP (ci := 0) (q0 := 1) rfl rfl)) rfl rfl hl.1 rfl (lv_room (Nat.le_of_ble_eq_true rfl)) d_Da_seconds_39 ⟨by decide, by decide⟩) hS (fun q _ h => hFc q h) hFc (fun r_ u t H locs ht hvm hw hB hz1 hk1 hS => ?_)
      rw [hw]
      obtain ⟨hP, -, hD⟩ := hB
      rw [ht] at hP
      have hD := lx_dj hD hFc
      exact hB_42 y_1 y_2 z_0 r_5 S_5 _ _ _ h hP hD hS (lv_sub hl [1, 2, 3, 0] rfl)
    · have h := lf_t h c_4
      refine lv_iconst (v := 0) hx hb d_Da_seconds_30 (by decide) ?_
      refine lv_goto (tgt := 42) hx hb d_Da_seconds_31 (by decide) ?_
      exact hB_42 y_1 y_2 z_0 0 S _ _ _ h hP hD hS (lv_sub hl [1, 2, 3, 0] rfl)
  rw [f_Da_seconds] at h
  refine lv_iload_n hx hb d_Da_seconds_0 rfl (lv_at hl 2 rfl) ?_
  refine lv_iconst (v := 2) hx hb d_Da_seconds_1 (by decide) ?_
  refine lv_icmp_ne (tgt := 16) hx hb d_Da_seconds_2 (by decide) (fun c_1 => ?_) (fun c_1 => ?_)
  · have h := lf_f h c_1
    refine lv_aload_n hx hb d_Da_seconds_16 rfl (lv_at hl 0 rfl) ?_
    refine lv_iload_n hx hb d_Da_seconds_17 rfl (lv_at hl 1 rfl) ?_
    refine lv_bipush (v := 16) hx hb d_Da_seconds_18 (by decide) ?_
    refine lv_iadd hx hb d_Da_seconds_20 ?_
    obtain ⟨r_2, S_2, hc_2, h⟩ := lf_cE h
    have hFc := lx_free hD hS hA
    refine va_calli (va_runV (As := [.int (p1 + 16)]) (rest := []) ⟨hx, hb, hml, hown, hts⟩ (l_Dk_two l dC dI X _ hc_2) (cwV 1 hts (gwV good_Vq (u_Vq_Da _ k_Da_3) (u_Vq_Dk _ k_Dk_17) (u_Vq_Dk _ k_Dk_18) (u_Vq_Dk _ k_Dk_0) (wcs (u_Vq_Dk _ k_Dk_19) (fun _ h => h))) rfl rfl rfl (by decide +kernel) ⟨Nat.le_of_ble_eq_true rfl, Nat.le_of_ble_eq_true rfl⟩) (pv_ofE (X.same _) (fun U z1 z2 => X.mono _ _ U hFc (hEw _ _ hS U z1 z2)) hP hK hD (va_recv hK hP (ci := 0) (q0 := 1) rfl rfl)) rfl rfl hl.1 rfl (lv_room (Nat.le_of_ble_eq_true rfl)) d_Da_seconds_21 ⟨by decide, by decide⟩) hS (fun q _ h => hFc q h) hFc (fun r_ u t H locs ht hvm hw hB hz1 hk1 hS => ?_)
    rw [hw]
    obtain ⟨hP, -, hD⟩ := hB
    rw [ht] at hP
    have hD := lx_dj hD hFc
    exact hB_24 p1 p2 r_2 S_2 _ _ _ h hP hD hS (lv_sub hl [0, 1, 2] rfl)
  · have h := lf_t h c_1
    refine lv_aload_n hx hb d_Da_seconds_5 rfl (lv_at hl 0 rfl) ?_
    refine lv_iload_n hx hb d_Da_seconds_6 rfl (lv_at hl 1 rfl) ?_
    refine lv_bipush (v := 18) hx hb d_Da_seconds_7 (by decide) ?_
    refine lv_iadd hx hb d_Da_seconds_9 ?_
    obtain ⟨r_3, S_3, hc_3, h⟩ := lf_cE h
    have hFc := lx_free hD hS hA
    refine va_calli (va_runV (As := [.int (p1 + 18)]) (rest := []) ⟨hx, hb, hml, hown, hts⟩ (l_Dk_two l dC dI X _ hc_3) (cwV 1 hts (gwV good_Vq (u_Vq_Da _ k_Da_3) (u_Vq_Dk _ k_Dk_17) (u_Vq_Dk _ k_Dk_18) (u_Vq_Dk _ k_Dk_0) (wcs (u_Vq_Dk _ k_Dk_19) (fun _ h => h))) rfl rfl rfl (by decide +kernel) ⟨Nat.le_of_ble_eq_true rfl, Nat.le_of_ble_eq_true rfl⟩) (pv_ofE (X.same _) (fun U z1 z2 => X.mono _ _ U hFc (hEw _ _ hS U z1 z2)) hP hK hD (va_recv hK hP (ci := 0) (q0 := 1) rfl rfl)) rfl rfl hl.1 rfl (lv_room (Nat.le_of_ble_eq_true rfl)) d_Da_seconds_10 ⟨by decide, by decide⟩) hS (fun q _ h => hFc q h) hFc (fun r_ u t H locs ht hvm hw hB hz1 hk1 hS => ?_)
    rw [hw]
    obtain ⟨hP, -, hD⟩ := hB
    rw [ht] at hP
    have hD := lx_dj hD hFc
    refine lv_goto (tgt := 24) hx hb d_Da_seconds_13 (by decide) ?_
    exact hB_24 p1 p2 r_3 S_3 _ _ _ h hP hD hS (lv_sub hl [0, 1, 2] rfl)
