def tb_fit2 (z : Int32) : Int32 := if z < 1 then 0 else if 32 < z then 0 else 1
def tb_fit1 (b y z : Int32) : Int32 := if b < 8 then 0 else if 64 < b then 0 else if y = 1 then tb_fit2 z else if y = 2 then tb_fit2 z else 0
def tb_fit (c b y z : Int32) : Int32 := if c = 2 then tb_fit1 b y z else if c = 4 then tb_fit1 b y z else if c = 8 then tb_fit1 b y z else 0
def tb_cw (sec c b y z : Int32) : Int32 := if 1 ≤ c then (sec - b - y * z) / c else 0
def tb_en (k z : Int32) : Int32 := if k < 4 then 0 else if 128 * z < k + 2 then 0 else 1
def tb_ok (sec c b y z : Int32) : Prop := ¬ tb_fit c b y z = 0 ∧ ¬ tb_en (tb_cw sec c b y z) z = 0
theorem tb_okD (sec c b y z : Int32) : tb_ok sec c b y z ∨ ¬ tb_ok sec c b y z := Classical.em _
noncomputable def tb_lst (sec c b y : Int32) : Nat → Nat → Int32
  | 0, _ => -1
  | k + 1, i => @ite _ (tb_ok sec c b y (nI i)) (Classical.propDecidable _) (nI i) (tb_lst sec c b y k (i + 1))
theorem tb_lst_no {sec c b y : Int32} {i : Nat} (h : ¬ tb_ok sec c b y (nI i)) (hi : i ≤ 32) : tb_lst sec c b y (33 - (i + 1)) (i + 1) = tb_lst sec c b y (33 - i) i := by
  obtain ⟨k, hk⟩ : ∃ k, 33 - i = k + 1 := ⟨32 - i, by omega⟩
  rw [hk, show 33 - (i + 1) = k by omega, tb_lst, if_neg h]
theorem tb_lst_yes {sec c b y : Int32} {i : Nat} (h : tb_ok sec c b y (nI i)) (hi : i ≤ 32) : nI i = tb_lst sec c b y (33 - i) i := by
  obtain ⟨k, hk⟩ : ∃ k, 33 - i = k + 1 := ⟨32 - i, by omega⟩
  rw [hk, tb_lst, if_pos h]
set_option maxHeartbeats 4000000 in
set_option maxRecDepth 100000 in
theorem c_Tb_numbersFit (l : Launch) (dC : Nat → ClassId) (dI : Nat → Nat → Nat) (sz : Nat) (p0 p1 p2 p3 : Int32) : Met l y_Tb_numbersFit (.code y_Tb_numbersFit b_Tb_numbersFit 4 (some .boolean) :: V_Tb) ({ frames := 0, cells := 0, slots := 0, locals := 0 }) (va_Pc [.int p0, .int p1, .int p2, .int p3] (fun U => U.heap.size = sz ∧ at_ (dC, dI) (fun _ => True) [] [] U)) (va_Qi (fun (r : Int32) (u : Unit) => r = tb_fit p0 p1 p2 p3) (fun (u : Unit) t => at_ (dC, dI) (va_A [] sz) [] [] t) (va_A [] sz)) 0 0 (va_A [] sz) := by
  refine Met.ofW (cc := b_Tb_numbersFit) (maxL := 4) (ret := (some .boolean)) (by decide) rfl ?_
  intro p e s m args below meth c s₁ B hml hv
  obtain ⟨rfl, hsz, hP, hK, hD0⟩ := hv
  have hx := B.exec
  have hb := B.bytes
  have hr := B.returns
  have hts0 := atoms_spec (ws := .code y_Tb_numbersFit b_Tb_numbersFit 4 (some .boolean) :: V_Tb) B.pre
  have hts : ∀ w ∈ V_Tb, w.before ([.int p0, .int p1, .int p2, .int p3] : List Value).toArray s = true := fun w h => hts0 w (List.mem_cons_of_mem _ h)
  have hown : s.vm.findClass R_Tb = some m.cls := findClass_of_methodNamed B.named
  have hlocks := B.notSynchronized
  subst hsz
  have hD := hD0.self (sz := s.heap.size)
  generalize hAe : va_A [] s.heap.size = A at hD ⊢
  have hA : ∀ q : Nat, s.heap.size ≤ q → A q := fun q h => by rw [← hAe]; exact Or.inr h
  have hS : va_S A s.heap s.heap [] := va_S.rf
  have hP : va_P (dC, dI) classes [] s.heap := hP
  have hK : va_K (dC, dI) classes [] s := hK
  have hl := lv_entry ([.int p0, .int p1, .int p2, .int p3]) (n := 4) (Nat.le_of_ble_eq_true rfl)
  rw [lg_entry_eq]
  generalize (lg_sl ([.int p0, .int p1, .int p2, .int p3]) ++ List.replicate (4 - (lg_sl ([.int p0, .int p1, .int p2, .int p3])).length) Slot.unset).toArray = ls at hl ⊢
  have hl : lv_has ls 4 [(0, .int p0), (1, .int p1), (2, .int p2), (3, .int p3)] := hl
  refine lv_iload_n hx hb d_Tb_numbersFit_0 rfl (lv_at hl 0 rfl) ?_
  refine lv_iconst (v := 2) hx hb d_Tb_numbersFit_1 (by decide) ?_
  refine lv_icmp_eq (tgt := 16) hx hb d_Tb_numbersFit_2 (by decide) (fun c_1 => ?_) (fun c_1 => ?_)
  · refine lv_iload_n hx hb d_Tb_numbersFit_16 rfl (lv_at hl 1 rfl) ?_
    refine lv_bipush (v := 8) hx hb d_Tb_numbersFit_17 (by decide) ?_
    refine lv_icmp_lt (tgt := 53) hx hb d_Tb_numbersFit_19 (by decide) (fun c_2 => ?_) (fun c_2 => ?_)
    · refine lv_iconst (v := 0) hx hb d_Tb_numbersFit_53 (by decide) ?_
      exact W.zret (v := 0) hx hb hr rfl (fun t ht hW => ⟨⟨0, (), rfl, by simp [tb_fit, tb_fit1, tb_fit2, c_1, c_2], by rw [ht]; exact hP, va_K.moved hW.alike hK, hD⟩, hS.F ht⟩) hS.2.2 d_Tb_numbersFit_54
    · refine lv_iload_n hx hb d_Tb_numbersFit_22 rfl (lv_at hl 1 rfl) ?_
      refine lv_bipush (v := 64) hx hb d_Tb_numbersFit_23 (by decide) ?_
      refine lv_icmp_gt (tgt := 53) hx hb d_Tb_numbersFit_25 (by decide) (fun c_3 => ?_) (fun c_3 => ?_)
      · refine lv_iconst (v := 0) hx hb d_Tb_numbersFit_53 (by decide) ?_
        exact W.zret (v := 0) hx hb hr rfl (fun t ht hW => ⟨⟨0, (), rfl, by simp [tb_fit, tb_fit1, tb_fit2, c_1, c_2, c_3], by rw [ht]; exact hP, va_K.moved hW.alike hK, hD⟩, hS.F ht⟩) hS.2.2 d_Tb_numbersFit_54
      · refine lv_iload_n hx hb d_Tb_numbersFit_28 rfl (lv_at hl 2 rfl) ?_
        refine lv_iconst (v := 1) hx hb d_Tb_numbersFit_29 (by decide) ?_
        refine lv_icmp_eq (tgt := 38) hx hb d_Tb_numbersFit_30 (by decide) (fun c_4 => ?_) (fun c_4 => ?_)
        · refine lv_iload_n hx hb d_Tb_numbersFit_38 rfl (lv_at hl 3 rfl) ?_
          refine lv_iconst (v := 1) hx hb d_Tb_numbersFit_39 (by decide) ?_
          refine lv_icmp_lt (tgt := 53) hx hb d_Tb_numbersFit_40 (by decide) (fun c_5 => ?_) (fun c_5 => ?_)
          · refine lv_iconst (v := 0) hx hb d_Tb_numbersFit_53 (by decide) ?_
            exact W.zret (v := 0) hx hb hr rfl (fun t ht hW => ⟨⟨0, (), rfl, by simp [tb_fit, tb_fit1, tb_fit2, c_1, c_2, c_3, c_4, c_5], by rw [ht]; exact hP, va_K.moved hW.alike hK, hD⟩, hS.F ht⟩) hS.2.2 d_Tb_numbersFit_54
          · refine lv_iload_n hx hb d_Tb_numbersFit_43 rfl (lv_at hl 3 rfl) ?_
            refine lv_bipush (v := 32) hx hb d_Tb_numbersFit_44 (by decide) ?_
            refine lv_icmp_gt (tgt := 53) hx hb d_Tb_numbersFit_46 (by decide) (fun c_6 => ?_) (fun c_6 => ?_)
            · refine lv_iconst (v := 0) hx hb d_Tb_numbersFit_53 (by decide) ?_
              exact W.zret (v := 0) hx hb hr rfl (fun t ht hW => ⟨⟨0, (), rfl, by simp [tb_fit, tb_fit1, tb_fit2, c_1, c_2, c_3, c_4, c_5, c_6], by rw [ht]; exact hP, va_K.moved hW.alike hK, hD⟩, hS.F ht⟩) hS.2.2 d_Tb_numbersFit_54
            · refine lv_iconst (v := 1) hx hb d_Tb_numbersFit_49 (by decide) ?_
              refine lv_goto (tgt := 54) hx hb d_Tb_numbersFit_50 (by decide) ?_
              exact W.zret (v := 1) hx hb hr rfl (fun t ht hW => ⟨⟨1, (), rfl, by simp [tb_fit, tb_fit1, tb_fit2, c_1, c_2, c_3, c_4, c_5, c_6], by rw [ht]; exact hP, va_K.moved hW.alike hK, hD⟩, hS.F ht⟩) hS.2.2 d_Tb_numbersFit_54
        · refine lv_iload_n hx hb d_Tb_numbersFit_33 rfl (lv_at hl 2 rfl) ?_
          refine lv_iconst (v := 2) hx hb d_Tb_numbersFit_34 (by decide) ?_
          refine lv_icmp_ne (tgt := 53) hx hb d_Tb_numbersFit_35 (by decide) (fun c_7 => ?_) (fun c_7 => ?_)
          · refine lv_iconst (v := 0) hx hb d_Tb_numbersFit_53 (by decide) ?_
            exact W.zret (v := 0) hx hb hr rfl (fun t ht hW => ⟨⟨0, (), rfl, by simp [tb_fit, tb_fit1, tb_fit2, c_1, c_2, c_3, c_4, c_7], by rw [ht]; exact hP, va_K.moved hW.alike hK, hD⟩, hS.F ht⟩) hS.2.2 d_Tb_numbersFit_54
          · refine lv_iload_n hx hb d_Tb_numbersFit_38 rfl (lv_at hl 3 rfl) ?_
            refine lv_iconst (v := 1) hx hb d_Tb_numbersFit_39 (by decide) ?_
            refine lv_icmp_lt (tgt := 53) hx hb d_Tb_numbersFit_40 (by decide) (fun c_8 => ?_) (fun c_8 => ?_)
            · refine lv_iconst (v := 0) hx hb d_Tb_numbersFit_53 (by decide) ?_
              exact W.zret (v := 0) hx hb hr rfl (fun t ht hW => ⟨⟨0, (), rfl, by simp [tb_fit, tb_fit1, tb_fit2, c_1, c_2, c_3, c_4, c_7, c_8], by rw [ht]; exact hP, va_K.moved hW.alike hK, hD⟩, hS.F ht⟩) hS.2.2 d_Tb_numbersFit_54
            · refine lv_iload_n hx hb d_Tb_numbersFit_43 rfl (lv_at hl 3 rfl) ?_
              refine lv_bipush (v := 32) hx hb d_Tb_numbersFit_44 (by decide) ?_
              refine lv_icmp_gt (tgt := 53) hx hb d_Tb_numbersFit_46 (by decide) (fun c_9 => ?_) (fun c_9 => ?_)
              · refine lv_iconst (v := 0) hx hb d_Tb_numbersFit_53 (by decide) ?_
                exact W.zret (v := 0) hx hb hr rfl (fun t ht hW => ⟨⟨0, (), rfl, by simp [tb_fit, tb_fit1, tb_fit2, c_1, c_2, c_3, c_4, c_7, c_8, c_9], by rw [ht]; exact hP, va_K.moved hW.alike hK, hD⟩, hS.F ht⟩) hS.2.2 d_Tb_numbersFit_54
              · refine lv_iconst (v := 1) hx hb d_Tb_numbersFit_49 (by decide) ?_
                refine lv_goto (tgt := 54) hx hb d_Tb_numbersFit_50 (by decide) ?_
                exact W.zret (v := 1) hx hb hr rfl (fun t ht hW => ⟨⟨1, (), rfl, by simp [tb_fit, tb_fit1, tb_fit2, c_1, c_2, c_3, c_4, c_7, c_8, c_9], by rw [ht]; exact hP, va_K.moved hW.alike hK, hD⟩, hS.F ht⟩) hS.2.2 d_Tb_numbersFit_54
  · refine lv_iload_n hx hb d_Tb_numbersFit_5 rfl (lv_at hl 0 rfl) ?_
    refine lv_iconst (v := 4) hx hb d_Tb_numbersFit_6 (by decide) ?_
    refine lv_icmp_eq (tgt := 16) hx hb d_Tb_numbersFit_7 (by decide) (fun c_10 => ?_) (fun c_10 => ?_)
    · refine lv_iload_n hx hb d_Tb_numbersFit_16 rfl (lv_at hl 1 rfl) ?_
      refine lv_bipush (v := 8) hx hb d_Tb_numbersFit_17 (by decide) ?_
      refine lv_icmp_lt (tgt := 53) hx hb d_Tb_numbersFit_19 (by decide) (fun c_11 => ?_) (fun c_11 => ?_)
      · refine lv_iconst (v := 0) hx hb d_Tb_numbersFit_53 (by decide) ?_
        exact W.zret (v := 0) hx hb hr rfl (fun t ht hW => ⟨⟨0, (), rfl, by simp [tb_fit, tb_fit1, tb_fit2, c_1, c_10, c_11], by rw [ht]; exact hP, va_K.moved hW.alike hK, hD⟩, hS.F ht⟩) hS.2.2 d_Tb_numbersFit_54
      · refine lv_iload_n hx hb d_Tb_numbersFit_22 rfl (lv_at hl 1 rfl) ?_
        refine lv_bipush (v := 64) hx hb d_Tb_numbersFit_23 (by decide) ?_
        refine lv_icmp_gt (tgt := 53) hx hb d_Tb_numbersFit_25 (by decide) (fun c_12 => ?_) (fun c_12 => ?_)
        · refine lv_iconst (v := 0) hx hb d_Tb_numbersFit_53 (by decide) ?_
          exact W.zret (v := 0) hx hb hr rfl (fun t ht hW => ⟨⟨0, (), rfl, by simp [tb_fit, tb_fit1, tb_fit2, c_1, c_10, c_11, c_12], by rw [ht]; exact hP, va_K.moved hW.alike hK, hD⟩, hS.F ht⟩) hS.2.2 d_Tb_numbersFit_54
        · refine lv_iload_n hx hb d_Tb_numbersFit_28 rfl (lv_at hl 2 rfl) ?_
          refine lv_iconst (v := 1) hx hb d_Tb_numbersFit_29 (by decide) ?_
          refine lv_icmp_eq (tgt := 38) hx hb d_Tb_numbersFit_30 (by decide) (fun c_13 => ?_) (fun c_13 => ?_)
          · refine lv_iload_n hx hb d_Tb_numbersFit_38 rfl (lv_at hl 3 rfl) ?_
            refine lv_iconst (v := 1) hx hb d_Tb_numbersFit_39 (by decide) ?_
            refine lv_icmp_lt (tgt := 53) hx hb d_Tb_numbersFit_40 (by decide) (fun c_14 => ?_) (fun c_14 => ?_)
            · refine lv_iconst (v := 0) hx hb d_Tb_numbersFit_53 (by decide) ?_
              exact W.zret (v := 0) hx hb hr rfl (fun t ht hW => ⟨⟨0, (), rfl, by simp [tb_fit, tb_fit1, tb_fit2, c_1, c_10, c_11, c_12, c_13, c_14], by rw [ht]; exact hP, va_K.moved hW.alike hK, hD⟩, hS.F ht⟩) hS.2.2 d_Tb_numbersFit_54
            · refine lv_iload_n hx hb d_Tb_numbersFit_43 rfl (lv_at hl 3 rfl) ?_
              refine lv_bipush (v := 32) hx hb d_Tb_numbersFit_44 (by decide) ?_
              refine lv_icmp_gt (tgt := 53) hx hb d_Tb_numbersFit_46 (by decide) (fun c_15 => ?_) (fun c_15 => ?_)
              · refine lv_iconst (v := 0) hx hb d_Tb_numbersFit_53 (by decide) ?_
                exact W.zret (v := 0) hx hb hr rfl (fun t ht hW => ⟨⟨0, (), rfl, by simp [tb_fit, tb_fit1, tb_fit2, c_1, c_10, c_11, c_12, c_13, c_14, c_15], by rw [ht]; exact hP, va_K.moved hW.alike hK, hD⟩, hS.F ht⟩) hS.2.2 d_Tb_numbersFit_54
              · refine lv_iconst (v := 1) hx hb d_Tb_numbersFit_49 (by decide) ?_
                refine lv_goto (tgt := 54) hx hb d_Tb_numbersFit_50 (by decide) ?_
                exact W.zret (v := 1) hx hb hr rfl (fun t ht hW => ⟨⟨1, (), rfl, by simp [tb_fit, tb_fit1, tb_fit2, c_1, c_10, c_11, c_12, c_13, c_14, c_15], by rw [ht]; exact hP, va_K.moved hW.alike hK, hD⟩, hS.F ht⟩) hS.2.2 d_Tb_numbersFit_54
          · refine lv_iload_n hx hb d_Tb_numbersFit_33 rfl (lv_at hl 2 rfl) ?_
            refine lv_iconst (v := 2) hx hb d_Tb_numbersFit_34 (by decide) ?_
            refine lv_icmp_ne (tgt := 53) hx hb d_Tb_numbersFit_35 (by decide) (fun c_16 => ?_) (fun c_16 => ?_)
            · refine lv_iconst (v := 0) hx hb d_Tb_numbersFit_53 (by decide) ?_
              exact W.zret (v := 0) hx hb hr rfl (fun t ht hW => ⟨⟨0, (), rfl, by simp [tb_fit, tb_fit1, tb_fit2, c_1, c_10, c_11, c_12, c_13, c_16], by rw [ht]; exact hP, va_K.moved hW.alike hK, hD⟩, hS.F ht⟩) hS.2.2 d_Tb_numbersFit_54
            · refine lv_iload_n hx hb d_Tb_numbersFit_38 rfl (lv_at hl 3 rfl) ?_
              refine lv_iconst (v := 1) hx hb d_Tb_numbersFit_39 (by decide) ?_
              refine lv_icmp_lt (tgt := 53) hx hb d_Tb_numbersFit_40 (by decide) (fun c_17 => ?_) (fun c_17 => ?_)
              · refine lv_iconst (v := 0) hx hb d_Tb_numbersFit_53 (by decide) ?_
                exact W.zret (v := 0) hx hb hr rfl (fun t ht hW => ⟨⟨0, (), rfl, by simp [tb_fit, tb_fit1, tb_fit2, c_1, c_10, c_11, c_12, c_13, c_16, c_17], by rw [ht]; exact hP, va_K.moved hW.alike hK, hD⟩, hS.F ht⟩) hS.2.2 d_Tb_numbersFit_54
              · refine lv_iload_n hx hb d_Tb_numbersFit_43 rfl (lv_at hl 3 rfl) ?_
                refine lv_bipush (v := 32) hx hb d_Tb_numbersFit_44 (by decide) ?_
                refine lv_icmp_gt (tgt := 53) hx hb d_Tb_numbersFit_46 (by decide) (fun c_18 => ?_) (fun c_18 => ?_)
                · refine lv_iconst (v := 0) hx hb d_Tb_numbersFit_53 (by decide) ?_
                  exact W.zret (v := 0) hx hb hr rfl (fun t ht hW => ⟨⟨0, (), rfl, by simp [tb_fit, tb_fit1, tb_fit2, c_1, c_10, c_11, c_12, c_13, c_16, c_17, c_18], by rw [ht]; exact hP, va_K.moved hW.alike hK, hD⟩, hS.F ht⟩) hS.2.2 d_Tb_numbersFit_54
                · refine lv_iconst (v := 1) hx hb d_Tb_numbersFit_49 (by decide) ?_
                  refine lv_goto (tgt := 54) hx hb d_Tb_numbersFit_50 (by decide) ?_
                  exact W.zret (v := 1) hx hb hr rfl (fun t ht hW => ⟨⟨1, (), rfl, by simp [tb_fit, tb_fit1, tb_fit2, c_1, c_10, c_11, c_12, c_13, c_16, c_17, c_18], by rw [ht]; exact hP, va_K.moved hW.alike hK, hD⟩, hS.F ht⟩) hS.2.2 d_Tb_numbersFit_54
    · refine lv_iload_n hx hb d_Tb_numbersFit_10 rfl (lv_at hl 0 rfl) ?_
      refine lv_bipush (v := 8) hx hb d_Tb_numbersFit_11 (by decide) ?_
      refine lv_icmp_ne (tgt := 53) hx hb d_Tb_numbersFit_13 (by decide) (fun c_19 => ?_) (fun c_19 => ?_)
      · refine lv_iconst (v := 0) hx hb d_Tb_numbersFit_53 (by decide) ?_
        exact W.zret (v := 0) hx hb hr rfl (fun t ht hW => ⟨⟨0, (), rfl, by simp [tb_fit, tb_fit1, tb_fit2, c_1, c_10, c_19], by rw [ht]; exact hP, va_K.moved hW.alike hK, hD⟩, hS.F ht⟩) hS.2.2 d_Tb_numbersFit_54
      · refine lv_iload_n hx hb d_Tb_numbersFit_16 rfl (lv_at hl 1 rfl) ?_
        refine lv_bipush (v := 8) hx hb d_Tb_numbersFit_17 (by decide) ?_
        refine lv_icmp_lt (tgt := 53) hx hb d_Tb_numbersFit_19 (by decide) (fun c_20 => ?_) (fun c_20 => ?_)
        · refine lv_iconst (v := 0) hx hb d_Tb_numbersFit_53 (by decide) ?_
          exact W.zret (v := 0) hx hb hr rfl (fun t ht hW => ⟨⟨0, (), rfl, by simp [tb_fit, tb_fit1, tb_fit2, c_1, c_10, c_19, c_20], by rw [ht]; exact hP, va_K.moved hW.alike hK, hD⟩, hS.F ht⟩) hS.2.2 d_Tb_numbersFit_54
        · refine lv_iload_n hx hb d_Tb_numbersFit_22 rfl (lv_at hl 1 rfl) ?_
          refine lv_bipush (v := 64) hx hb d_Tb_numbersFit_23 (by decide) ?_
          refine lv_icmp_gt (tgt := 53) hx hb d_Tb_numbersFit_25 (by decide) (fun c_21 => ?_) (fun c_21 => ?_)
          · refine lv_iconst (v := 0) hx hb d_Tb_numbersFit_53 (by decide) ?_
            exact W.zret (v := 0) hx hb hr rfl (fun t ht hW => ⟨⟨0, (), rfl, by simp [tb_fit, tb_fit1, tb_fit2, c_1, c_10, c_19, c_20, c_21], by rw [ht]; exact hP, va_K.moved hW.alike hK, hD⟩, hS.F ht⟩) hS.2.2 d_Tb_numbersFit_54
          · refine lv_iload_n hx hb d_Tb_numbersFit_28 rfl (lv_at hl 2 rfl) ?_
            refine lv_iconst (v := 1) hx hb d_Tb_numbersFit_29 (by decide) ?_
            refine lv_icmp_eq (tgt := 38) hx hb d_Tb_numbersFit_30 (by decide) (fun c_22 => ?_) (fun c_22 => ?_)
            · refine lv_iload_n hx hb d_Tb_numbersFit_38 rfl (lv_at hl 3 rfl) ?_
              refine lv_iconst (v := 1) hx hb d_Tb_numbersFit_39 (by decide) ?_
              refine lv_icmp_lt (tgt := 53) hx hb d_Tb_numbersFit_40 (by decide) (fun c_23 => ?_) (fun c_23 => ?_)
              · refine lv_iconst (v := 0) hx hb d_Tb_numbersFit_53 (by decide) ?_
                exact W.zret (v := 0) hx hb hr rfl (fun t ht hW => ⟨⟨0, (), rfl, by simp [tb_fit, tb_fit1, tb_fit2, c_1, c_10, c_19, c_20, c_21, c_22, c_23], by rw [ht]; exact hP, va_K.moved hW.alike hK, hD⟩, hS.F ht⟩) hS.2.2 d_Tb_numbersFit_54
              · refine lv_iload_n hx hb d_Tb_numbersFit_43 rfl (lv_at hl 3 rfl) ?_
                refine lv_bipush (v := 32) hx hb d_Tb_numbersFit_44 (by decide) ?_
                refine lv_icmp_gt (tgt := 53) hx hb d_Tb_numbersFit_46 (by decide) (fun c_24 => ?_) (fun c_24 => ?_)
                · refine lv_iconst (v := 0) hx hb d_Tb_numbersFit_53 (by decide) ?_
                  exact W.zret (v := 0) hx hb hr rfl (fun t ht hW => ⟨⟨0, (), rfl, by simp [tb_fit, tb_fit1, tb_fit2, c_1, c_10, c_19, c_20, c_21, c_22, c_23, c_24], by rw [ht]; exact hP, va_K.moved hW.alike hK, hD⟩, hS.F ht⟩) hS.2.2 d_Tb_numbersFit_54
                · refine lv_iconst (v := 1) hx hb d_Tb_numbersFit_49 (by decide) ?_
                  refine lv_goto (tgt := 54) hx hb d_Tb_numbersFit_50 (by decide) ?_
                  exact W.zret (v := 1) hx hb hr rfl (fun t ht hW => ⟨⟨1, (), rfl, by simp [tb_fit, tb_fit1, tb_fit2, c_1, c_10, c_19, c_20, c_21, c_22, c_23, c_24], by rw [ht]; exact hP, va_K.moved hW.alike hK, hD⟩, hS.F ht⟩) hS.2.2 d_Tb_numbersFit_54
            · refine lv_iload_n hx hb d_Tb_numbersFit_33 rfl (lv_at hl 2 rfl) ?_
              refine lv_iconst (v := 2) hx hb d_Tb_numbersFit_34 (by decide) ?_
              refine lv_icmp_ne (tgt := 53) hx hb d_Tb_numbersFit_35 (by decide) (fun c_25 => ?_) (fun c_25 => ?_)
              · refine lv_iconst (v := 0) hx hb d_Tb_numbersFit_53 (by decide) ?_
                exact W.zret (v := 0) hx hb hr rfl (fun t ht hW => ⟨⟨0, (), rfl, by simp [tb_fit, tb_fit1, tb_fit2, c_1, c_10, c_19, c_20, c_21, c_22, c_25], by rw [ht]; exact hP, va_K.moved hW.alike hK, hD⟩, hS.F ht⟩) hS.2.2 d_Tb_numbersFit_54
              · refine lv_iload_n hx hb d_Tb_numbersFit_38 rfl (lv_at hl 3 rfl) ?_
                refine lv_iconst (v := 1) hx hb d_Tb_numbersFit_39 (by decide) ?_
                refine lv_icmp_lt (tgt := 53) hx hb d_Tb_numbersFit_40 (by decide) (fun c_26 => ?_) (fun c_26 => ?_)
                · refine lv_iconst (v := 0) hx hb d_Tb_numbersFit_53 (by decide) ?_
                  exact W.zret (v := 0) hx hb hr rfl (fun t ht hW => ⟨⟨0, (), rfl, by simp [tb_fit, tb_fit1, tb_fit2, c_1, c_10, c_19, c_20, c_21, c_22, c_25, c_26], by rw [ht]; exact hP, va_K.moved hW.alike hK, hD⟩, hS.F ht⟩) hS.2.2 d_Tb_numbersFit_54
                · refine lv_iload_n hx hb d_Tb_numbersFit_43 rfl (lv_at hl 3 rfl) ?_
                  refine lv_bipush (v := 32) hx hb d_Tb_numbersFit_44 (by decide) ?_
                  refine lv_icmp_gt (tgt := 53) hx hb d_Tb_numbersFit_46 (by decide) (fun c_27 => ?_) (fun c_27 => ?_)
                  · refine lv_iconst (v := 0) hx hb d_Tb_numbersFit_53 (by decide) ?_
                    exact W.zret (v := 0) hx hb hr rfl (fun t ht hW => ⟨⟨0, (), rfl, by simp [tb_fit, tb_fit1, tb_fit2, c_1, c_10, c_19, c_20, c_21, c_22, c_25, c_26, c_27], by rw [ht]; exact hP, va_K.moved hW.alike hK, hD⟩, hS.F ht⟩) hS.2.2 d_Tb_numbersFit_54
                  · refine lv_iconst (v := 1) hx hb d_Tb_numbersFit_49 (by decide) ?_
                    refine lv_goto (tgt := 54) hx hb d_Tb_numbersFit_50 (by decide) ?_
                    exact W.zret (v := 1) hx hb hr rfl (fun t ht hW => ⟨⟨1, (), rfl, by simp [tb_fit, tb_fit1, tb_fit2, c_1, c_10, c_19, c_20, c_21, c_22, c_25, c_26, c_27], by rw [ht]; exact hP, va_K.moved hW.alike hK, hD⟩, hS.F ht⟩) hS.2.2 d_Tb_numbersFit_54
set_option maxHeartbeats 4000000 in
set_option maxRecDepth 100000 in
theorem c_Tb_isEnough (l : Launch) (dC : Nat → ClassId) (dI : Nat → Nat → Nat) (sz : Nat) (p0 p1 : Int32) : Met l y_Tb_isEnough (.code y_Tb_isEnough b_Tb_isEnough 2 (some .boolean) :: V_Tb) ({ frames := 0, cells := 0, slots := 0, locals := 0 }) (va_Pc [.int p0, .int p1] (fun U => U.heap.size = sz ∧ at_ (dC, dI) (fun _ => True) [] [] U)) (va_Qi (fun (r : Int32) (u : Unit) => r = tb_en p0 p1) (fun (u : Unit) t => at_ (dC, dI) (va_A [] sz) [] [] t) (va_A [] sz)) 0 0 (va_A [] sz) := by
  refine Met.ofW (cc := b_Tb_isEnough) (maxL := 2) (ret := (some .boolean)) (by decide) rfl ?_
  intro p e s m args below meth c s₁ B hml hv
  obtain ⟨rfl, hsz, hP, hK, hD0⟩ := hv
  have hx := B.exec
  have hb := B.bytes
  have hr := B.returns
  have hts0 := atoms_spec (ws := .code y_Tb_isEnough b_Tb_isEnough 2 (some .boolean) :: V_Tb) B.pre
  have hts : ∀ w ∈ V_Tb, w.before ([.int p0, .int p1] : List Value).toArray s = true := fun w h => hts0 w (List.mem_cons_of_mem _ h)
  have hown : s.vm.findClass R_Tb = some m.cls := findClass_of_methodNamed B.named
  have hlocks := B.notSynchronized
  subst hsz
  have hD := hD0.self (sz := s.heap.size)
  generalize hAe : va_A [] s.heap.size = A at hD ⊢
  have hA : ∀ q : Nat, s.heap.size ≤ q → A q := fun q h => by rw [← hAe]; exact Or.inr h
  have hS : va_S A s.heap s.heap [] := va_S.rf
  have hP : va_P (dC, dI) classes [] s.heap := hP
  have hK : va_K (dC, dI) classes [] s := hK
  have hl := lv_entry ([.int p0, .int p1]) (n := 2) (Nat.le_of_ble_eq_true rfl)
  rw [lg_entry_eq]
  generalize (lg_sl ([.int p0, .int p1]) ++ List.replicate (2 - (lg_sl ([.int p0, .int p1])).length) Slot.unset).toArray = ls at hl ⊢
  have hl : lv_has ls 2 [(0, .int p0), (1, .int p1)] := hl
  refine lv_iload_n hx hb d_Tb_isEnough_0 rfl (lv_at hl 0 rfl) ?_
  refine lv_iconst (v := 4) hx hb d_Tb_isEnough_1 (by decide) ?_
  refine lv_icmp_lt (tgt := 20) hx hb d_Tb_isEnough_2 (by decide) (fun c_1 => ?_) (fun c_1 => ?_)
  · refine lv_iconst (v := 0) hx hb d_Tb_isEnough_20 (by decide) ?_
    exact W.zret (v := 0) hx hb hr rfl (fun t ht hW => ⟨⟨0, (), rfl, by rw [tb_en, if_pos c_1], by rw [ht]; exact hP, va_K.moved hW.alike hK, hD⟩, hS.F ht⟩) hS.2.2 d_Tb_isEnough_21
  · refine lv_sipush (v := 128) hx hb d_Tb_isEnough_5 (by decide) ?_
    refine lv_iload_n hx hb d_Tb_isEnough_8 rfl (lv_at hl 1 rfl) ?_
    refine lv_imul hx hb d_Tb_isEnough_9 ?_
    refine lv_iload_n hx hb d_Tb_isEnough_10 rfl (lv_at hl 0 rfl) ?_
    refine lv_iconst (v := 2) hx hb d_Tb_isEnough_11 (by decide) ?_
    refine lv_iadd hx hb d_Tb_isEnough_12 ?_
    refine lv_icmp_lt (tgt := 20) hx hb d_Tb_isEnough_13 (by decide) (fun c_2 => ?_) (fun c_2 => ?_)
    · refine lv_iconst (v := 0) hx hb d_Tb_isEnough_20 (by decide) ?_
      exact W.zret (v := 0) hx hb hr rfl (fun t ht hW => ⟨⟨0, (), rfl, by rw [tb_en, if_neg c_1, if_pos c_2], by rw [ht]; exact hP, va_K.moved hW.alike hK, hD⟩, hS.F ht⟩) hS.2.2 d_Tb_isEnough_21
    · refine lv_iconst (v := 1) hx hb d_Tb_isEnough_16 (by decide) ?_
      refine lv_goto (tgt := 21) hx hb d_Tb_isEnough_17 (by decide) ?_
      exact W.zret (v := 1) hx hb hr rfl (fun t ht hW => ⟨⟨1, (), rfl, by rw [tb_en, if_neg c_1, if_neg c_2], by rw [ht]; exact hP, va_K.moved hW.alike hK, hD⟩, hS.F ht⟩) hS.2.2 d_Tb_isEnough_21
set_option maxHeartbeats 4000000 in
set_option maxRecDepth 100000 in
theorem c_Tb_clustersWith (l : Launch) (dC : Nat → ClassId) (dI : Nat → Nat → Nat) (b0 b1 b2 h0 h1 sz : Nat) (cl be co le ro sa ks sec pw p1 p2 p3 p4 : Int32) : Met l y_Tb_clustersWith (.code y_Tb_clustersWith b_Tb_clustersWith 5 (some .int) :: V_Tb) ({ frames := 0, cells := 0, slots := 0, locals := 0 }) (va_Pc [.ref b0, .int p1, .int p2, .int p3, .int p4] (fun U => U.heap.size = sz ∧ at_ (dC, dI) (fun _ => True) [(b0, .inr (4, [.ref h0, .int cl, .int be, .int co, .int le, .int ro, .int sa, .int ks, .ref b1, .ref b2])), (h0, .inr (0, [.int sec, .ref h1, .int pw]))] [] U)) (va_Qi (fun (r : Int32) (u : Unit) => r = tb_cw sec p1 p2 p3 p4) (fun (u : Unit) t => at_ (dC, dI) (va_A [(b0, .inr (4, [.ref h0, .int cl, .int be, .int co, .int le, .int ro, .int sa, .int ks, .ref b1, .ref b2])), (h0, .inr (0, [.int sec, .ref h1, .int pw]))] sz) [(b0, .inr (4, [.ref h0, .int cl, .int be, .int co, .int le, .int ro, .int sa, .int ks, .ref b1, .ref b2])), (h0, .inr (0, [.int sec, .ref h1, .int pw]))] [] t) (va_A [(b0, .inr (4, [.ref h0, .int cl, .int be, .int co, .int le, .int ro, .int sa, .int ks, .ref b1, .ref b2])), (h0, .inr (0, [.int sec, .ref h1, .int pw]))] sz)) 0 0 (va_A [(b0, .inr (4, [.ref h0, .int cl, .int be, .int co, .int le, .int ro, .int sa, .int ks, .ref b1, .ref b2])), (h0, .inr (0, [.int sec, .ref h1, .int pw]))] sz) := by
  refine Met.ofW (cc := b_Tb_clustersWith) (maxL := 5) (ret := (some .int)) (by decide) rfl ?_
  intro p e s m args below meth c s₁ B hml hv
  obtain ⟨rfl, hsz, hP, hK, hD0⟩ := hv
  have hx := B.exec
  have hb := B.bytes
  have hr := B.returns
  have hts0 := atoms_spec (ws := .code y_Tb_clustersWith b_Tb_clustersWith 5 (some .int) :: V_Tb) B.pre
  have hts : ∀ w ∈ V_Tb, w.before ([.ref b0, .int p1, .int p2, .int p3, .int p4] : List Value).toArray s = true := fun w h => hts0 w (List.mem_cons_of_mem _ h)
  have hown : s.vm.findClass R_Tb = some m.cls := findClass_of_methodNamed B.named
  have hlocks := B.notSynchronized
  subst hsz
  have hD := hD0.self (sz := s.heap.size)
  generalize hAe : va_A [(b0, .inr (4, [.ref h0, .int cl, .int be, .int co, .int le, .int ro, .int sa, .int ks, .ref b1, .ref b2])), (h0, .inr (0, [.int sec, .ref h1, .int pw]))] s.heap.size = A at hD ⊢
  have hA : ∀ q : Nat, s.heap.size ≤ q → A q := fun q h => by rw [← hAe]; exact Or.inr h
  have hS : va_S A s.heap s.heap [] := va_S.rf
  have hP : va_P (dC, dI) classes [(b0, .inr (4, [.ref h0, .int cl, .int be, .int co, .int le, .int ro, .int sa, .int ks, .ref b1, .ref b2])), (h0, .inr (0, [.int sec, .ref h1, .int pw]))] s.heap := hP
  have hK : va_K (dC, dI) classes [] s := hK
  have hl := lv_entry ([.ref b0, .int p1, .int p2, .int p3, .int p4]) (n := 5) (Nat.le_of_ble_eq_true rfl)
  rw [lg_entry_eq]
  generalize (lg_sl ([.ref b0, .int p1, .int p2, .int p3, .int p4]) ++ List.replicate (5 - (lg_sl ([.ref b0, .int p1, .int p2, .int p3, .int p4])).length) Slot.unset).toArray = ls at hl ⊢
  have hl : lv_has ls 5 [(0, .ref b0), (1, .int p1), (2, .int p2), (3, .int p3), (4, .int p4)] := hl
  refine lv_iload_n hx hb d_Tb_clustersWith_0 rfl (lv_at hl 1 rfl) ?_
  refine lv_iconst (v := 1) hx hb d_Tb_clustersWith_1 (by decide) ?_
  refine lv_icmp_ge (tgt := 9) hx hb d_Tb_clustersWith_2 (by decide) (fun c_1 => ?_) (fun c_1 => ?_)
  · refine lv_aload_n hx hb d_Tb_clustersWith_9 rfl (lv_at hl 0 rfl) ?_
    refine va_get (D := (dC, dI)) (ci := 4) (v := .ref h0) (C := R_Tb) (T := F_Tb) (N := 10) hx hb hts i_Tb hown hK hP 0 rfl rfl 0 (by decide) (hts _ (k_Tb_6)) (fun _ h9 => h9) rfl d_Tb_clustersWith_10 ?_
    refine va_get (D := (dC, dI)) (ci := 0) (v := .int sec) (C := R_Dk) (T := F_Dk) (N := 3) hx hb hts (fun w h => u_Tb_Dk w (i_Dk w h)) hown hK hP 1 rfl rfl 0 (by decide) (hts _ (k_Tb_1)) (fun _ h9 => h9) rfl d_Tb_clustersWith_13 ?_
    refine lv_iload_n hx hb d_Tb_clustersWith_16 rfl (lv_at hl 2 rfl) ?_
    refine lv_isub hx hb d_Tb_clustersWith_17 ?_
    refine lv_iload_n hx hb d_Tb_clustersWith_18 rfl (lv_at hl 3 rfl) ?_
    refine lv_iload hx hb d_Tb_clustersWith_19 (lv_at hl 4 rfl) ?_
    refine lv_imul hx hb d_Tb_clustersWith_21 ?_
    refine lv_isub hx hb d_Tb_clustersWith_22 ?_
    refine lv_iload_n hx hb d_Tb_clustersWith_23 rfl (lv_at hl 1 rfl) ?_
    refine lv_idiv hx hb d_Tb_clustersWith_24 (fun h => by rw [h] at c_1; exact absurd c_1 (by decide)) ?_
    exact W.iret (v := (((sec - p2) - (p3 * p4)) / p1)) hx hb hr (fun t ht hW => ⟨⟨(((sec - p2) - (p3 * p4)) / p1), (), rfl, by rw [tb_cw, if_pos c_1], by rw [ht]; exact hP, va_K.moved hW.alike hK, hD⟩, hS.F ht⟩) hS.2.2 d_Tb_clustersWith_25
  · refine lv_iconst (v := 0) hx hb d_Tb_clustersWith_5 (by decide) ?_
    refine lv_goto (tgt := 25) hx hb d_Tb_clustersWith_6 (by decide) ?_
    exact W.iret (v := 0) hx hb hr (fun t ht hW => ⟨⟨0, (), rfl, by rw [tb_cw, if_neg c_1], by rw [ht]; exact hP, va_K.moved hW.alike hK, hD⟩, hS.F ht⟩) hS.2.2 d_Tb_clustersWith_25
set_option maxHeartbeats 4000000 in
set_option maxRecDepth 100000 in
/-- the least sectors of a table that do, or -1 -/
theorem c_Tb_leastLength (l : Launch) (dC : Nat → ClassId) (dI : Nat → Nat → Nat) (b0 b1 b2 h0 h1 sz : Nat) (cl be co le ro sa ks sec pw p1 p2 p3 : Int32) : Met l y_Tb_leastLength (.code y_Tb_leastLength b_Tb_leastLength 5 (some .int) :: V_Tb) ({ frames := 1, cells := 0, slots := 0, locals := 24 }) (va_Pc [.ref b0, .int p1, .int p2, .int p3] (fun U => U.heap.size = sz ∧ at_ (dC, dI) (fun _ => True) [(b0, .inr (4, [.ref h0, .int cl, .int be, .int co, .int le, .int ro, .int sa, .int ks, .ref b1, .ref b2])), (h0, .inr (0, [.int sec, .ref h1, .int pw]))] [] U)) (va_Qi (fun (r : Int32) (u : Unit) => r = tb_lst sec p1 p2 p3 32 1) (fun (u : Unit) t => at_ (dC, dI) (va_A [(b0, .inr (4, [.ref h0, .int cl, .int be, .int co, .int le, .int ro, .int sa, .int ks, .ref b1, .ref b2])), (h0, .inr (0, [.int sec, .ref h1, .int pw]))] sz) [(b0, .inr (4, [.ref h0, .int cl, .int be, .int co, .int le, .int ro, .int sa, .int ks, .ref b1, .ref b2])), (h0, .inr (0, [.int sec, .ref h1, .int pw]))] [] t) (va_A [(b0, .inr (4, [.ref h0, .int cl, .int be, .int co, .int le, .int ro, .int sa, .int ks, .ref b1, .ref b2])), (h0, .inr (0, [.int sec, .ref h1, .int pw]))] sz)) 0 0 (va_A [(b0, .inr (4, [.ref h0, .int cl, .int be, .int co, .int le, .int ro, .int sa, .int ks, .ref b1, .ref b2])), (h0, .inr (0, [.int sec, .ref h1, .int pw]))] sz) := by
  refine Met.ofW (cc := b_Tb_leastLength) (maxL := 5) (ret := (some .int)) (by decide) rfl ?_
  intro p e s m args below meth c s₁ B hml hv
  obtain ⟨rfl, hsz, hP, hK, hD0⟩ := hv
  have hx := B.exec
  have hb := B.bytes
  have hr := B.returns
  have hts0 := atoms_spec (ws := .code y_Tb_leastLength b_Tb_leastLength 5 (some .int) :: V_Tb) B.pre
  have hts : ∀ w ∈ V_Tb, w.before ([.ref b0, .int p1, .int p2, .int p3] : List Value).toArray s = true := fun w h => hts0 w (List.mem_cons_of_mem _ h)
  have hown : s.vm.findClass R_Tb = some m.cls := findClass_of_methodNamed B.named
  have hlocks := B.notSynchronized
  subst hsz
  have hD := hD0.self (sz := s.heap.size)
  generalize hAe : va_A [(b0, .inr (4, [.ref h0, .int cl, .int be, .int co, .int le, .int ro, .int sa, .int ks, .ref b1, .ref b2])), (h0, .inr (0, [.int sec, .ref h1, .int pw]))] s.heap.size = A at hD ⊢
  have hA : ∀ q : Nat, s.heap.size ≤ q → A q := fun q h => by rw [← hAe]; exact Or.inr h
  have hS : va_S A s.heap s.heap [] := va_S.rf
  have hP : va_P (dC, dI) classes [(b0, .inr (4, [.ref h0, .int cl, .int be, .int co, .int le, .int ro, .int sa, .int ks, .ref b1, .ref b2])), (h0, .inr (0, [.int sec, .ref h1, .int pw]))] s.heap := hP
  have hK : va_K (dC, dI) classes [] s := hK
  have hl := lv_entry ([.ref b0, .int p1, .int p2, .int p3]) (n := 5) (Nat.le_of_ble_eq_true rfl)
  rw [lg_entry_eq]
  generalize (lg_sl ([.ref b0, .int p1, .int p2, .int p3]) ++ List.replicate (5 - (lg_sl ([.ref b0, .int p1, .int p2, .int p3])).length) Slot.unset).toArray = ls at hl ⊢
  have hl : lv_has ls 5 [(0, .ref b0), (1, .int p1), (2, .int p2), (3, .int p3)] := hl
  refine qabs (fun Q hQ => ?_)
  have hL3 : ∀ (k_ : Nat) (i : Nat) (H : Heap) (locs : List Loc) (ls : Array Slot), 33 - i < k_ → (1 ≤ i) → (i ≤ 33) → (tb_lst sec p1 p2 p3 (33 - i) i = tb_lst sec p1 p2 p3 32 1) → va_P (dC, dI) classes [(b0, .inr (4, [.ref h0, .int cl, .int be, .int co, .int le, .int ro, .int sa, .int ks, .ref b1, .ref b2])), (h0, .inr (0, [.int sec, .ref h1, .int pw]))] H → va_D A [(b0, .inr (4, [.ref h0, .int cl, .int be, .int co, .int le, .int ro, .int sa, .int ks, .ref b1, .ref b2])), (h0, .inr (0, [.int sec, .ref h1, .int pw]))] → va_S A s.heap H locs → lv_has ls 5 [(0, .ref b0), (1, .int p1), (2, .int p2), (3, .int p3), (4, .int (nI i))] → W p l e ({ frames := 1, cells := 0, slots := 0, locals := 24 }) s m ([.ref b0, .int p1, .int p2, .int p3] : List Value).toArray below meth c H locs 0 0 Q (F0 m 3 ls []) := by
    intro k_
    induction k_ with
    | zero => intro i H locs ls hk_; exact absurd hk_ (Nat.not_lt_zero _)
    | succ k_ ih =>
      intro i H locs ls hk_ h1i hi3 he hP hD hS hl
      refine lv_iload hx hb d_Tb_leastLength_3 (lv_at hl 4 rfl) ?_
      refine lv_bipush (v := 32) hx hb d_Tb_leastLength_5 (by decide) ?_
      refine lv_icmp_gt (tgt := 47) hx hb d_Tb_leastLength_7 (by decide) (fun c_1 => ?_) (fun c_1 => ?_)
      · have hi9 : 32 < i := (nI_ltI (a := 32) (by decide) (by omega)).mp c_1
        refine lv_iconst (v := (-1)) hx hb d_Tb_leastLength_47 (by decide) ?_
        rw [hQ]
        exact W.iret (v := ((-1))) hx hb hr (fun t ht hW => ⟨⟨((-1)), (), rfl, by rw [← he, show i = 33 by omega]; rfl, by rw [ht]; exact hP, va_K.moved hW.alike hK, hD⟩, hS.F ht⟩) hS.2.2 d_Tb_leastLength_48
      · have hi32 : i ≤ 32 := nle_of_lt (a := 32) (by decide) c_1 (by omega)
        refine lv_iload_n hx hb d_Tb_leastLength_10 rfl (lv_at hl 1 rfl) ?_
        refine lv_iload_n hx hb d_Tb_leastLength_11 rfl (lv_at hl 2 rfl) ?_
        refine lv_iload_n hx hb d_Tb_leastLength_12 rfl (lv_at hl 3 rfl) ?_
        refine lv_iload hx hb d_Tb_leastLength_13 (lv_at hl 4 rfl) ?_
        have hPc := hP.sub (ws' := []) [] rfl
        have hDc := hD.sub (ws' := []) [] (by decide) rfl
        have hKc := hK.sub (tys' := []) [] rfl
        have hFc := va_free (wc := []) hD hS hA [] rfl
        refine va_calli (va_runS (As := [.int p1, .int p2, .int p3, .int (nI i)]) (rest := []) ⟨hx, hb, hml, hown, hts⟩ (c_Tb_numbersFit l dC dI H.size p1 p2 p3 (nI i)) (va_cwS 4 hts (gwS good_Tb (k_Tb_29) (k_Tb_30) (k_Tb_0) (wcs (k_Tb_31) (fun _ h => h))) rfl rfl rfl (by decide +kernel) ⟨Nat.le_of_ble_eq_true rfl, Nat.le_of_ble_eq_true rfl⟩) (ps_of hPc hKc hDc) rfl rfl hl.1 rfl (lv_room (Nat.le_of_ble_eq_true rfl)) d_Tb_leastLength_15 ⟨by decide, by decide⟩) hS (fun q _ h => hFc q h) hFc (fun r_2 u t H1 locs ht hvm hw hB hz1 hk1 hS => ?_)
        have er_2 := hw
        obtain ⟨hP1, hK1, hD1⟩ := hB
        rw [ht] at hP1
        have hP1 : va_P (dC, dI) classes [] H1 := hP1
        have hD1 : va_D _ [] := hD1
        obtain ⟨hP, hD⟩ := va_join (wr := [(b0, .inr (4, [.ref h0, .int cl, .int be, .int co, .int le, .int ro, .int sa, .int ks, .ref b1, .ref b2])), (h0, .inr (0, [.int sec, .ref h1, .int pw]))]) (w1 := []) hP hD [] [0, 1] rfl rfl (by decide) (by decide) hk1 hFc hP1 hD1
        generalize H1 = H at hP hS ⊢
        have hP : va_P (dC, dI) classes [(b0, .inr (4, [.ref h0, .int cl, .int be, .int co, .int le, .int ro, .int sa, .int ks, .ref b1, .ref b2])), (h0, .inr (0, [.int sec, .ref h1, .int pw]))] H := hP
        have hD : va_D A [(b0, .inr (4, [.ref h0, .int cl, .int be, .int co, .int le, .int ro, .int sa, .int ks, .ref b1, .ref b2])), (h0, .inr (0, [.int sec, .ref h1, .int pw]))] := hD
        refine lv_if_eq (tgt := 41) hx hb d_Tb_leastLength_18 (by decide) (fun c_3 => ?_) (fun c_3 => ?_)
        · refine lv_iinc (v := nI (i + 1)) (lv' := [(4, .int (nI (i + 1))), (0, .ref b0), (1, .int p1), (2, .int p2), (3, .int p3)]) hx hb d_Tb_leastLength_41 hl (k := 4) rfl (by exact nI_1 i) (by decide) rfl (fun ls hl => ?_)
          refine lv_goto (tgt := 3) hx hb d_Tb_leastLength_44 (by decide) ?_
          exact ih (i + 1) _ _ _ (by omega) (by omega) (by omega) ((tb_lst_no (fun h => h.1 (by rw [← er_2]; exact c_3)) hi32).trans he) hP hD hS (lv_sub hl [1, 2, 3, 4, 0] rfl)
        · refine lv_aload_n hx hb d_Tb_leastLength_21 rfl (lv_at hl 0 rfl) ?_
          refine lv_iload_n hx hb d_Tb_leastLength_22 rfl (lv_at hl 1 rfl) ?_
          refine lv_iload_n hx hb d_Tb_leastLength_23 rfl (lv_at hl 2 rfl) ?_
          refine lv_iload_n hx hb d_Tb_leastLength_24 rfl (lv_at hl 3 rfl) ?_
          refine lv_iload hx hb d_Tb_leastLength_25 (lv_at hl 4 rfl) ?_
          have hPc := hP.sub (ws' := [(b0, .inr (4, [.ref h0, .int cl, .int be, .int co, .int le, .int ro, .int sa, .int ks, .ref b1, .ref b2])), (h0, .inr (0, [.int sec, .ref h1, .int pw]))]) [0, 1] rfl
          have hDc := hD.sub (ws' := [(b0, .inr (4, [.ref h0, .int cl, .int be, .int co, .int le, .int ro, .int sa, .int ks, .ref b1, .ref b2])), (h0, .inr (0, [.int sec, .ref h1, .int pw]))]) [0, 1] (by decide) rfl
          have hKc := hK.sub (tys' := []) [] rfl
          have hFc := va_free (wc := [(b0, .inr (4, [.ref h0, .int cl, .int be, .int co, .int le, .int ro, .int sa, .int ks, .ref b1, .ref b2])), (h0, .inr (0, [.int sec, .ref h1, .int pw]))]) hD hS hA [0, 1] rfl
          refine va_calli (va_runV (As := [.int p1, .int p2, .int p3, .int (nI i)]) (rest := []) ⟨hx, hb, hml, hown, hts⟩ (c_Tb_clustersWith l dC dI b0 b1 b2 h0 h1 H.size cl be co le ro sa ks sec pw p1 p2 p3 (nI i)) (cwV 4 hts (gwV good_Tb (k_Tb_32) (k_Tb_33) (k_Tb_109) (k_Tb_0) (wcs (k_Tb_34) (fun _ h => h))) rfl rfl rfl (by decide +kernel) ⟨Nat.le_of_ble_eq_true rfl, Nat.le_of_ble_eq_true rfl⟩) (pv_of hPc hKc hDc (va_recv hKc hPc (ci := 4) (q0 := 0) rfl rfl)) rfl rfl hl.1 rfl (lv_room (Nat.le_of_ble_eq_true rfl)) d_Tb_leastLength_27 ⟨by decide, by decide⟩) hS (fun q _ h => hFc q h) hFc (fun r_4 u t H1 locs ht hvm hw hB hz1 hk1 hS => ?_)
          have er_4 := hw
          obtain ⟨hP1, hK1, hD1⟩ := hB
          rw [ht] at hP1
          have hP1 : va_P (dC, dI) classes [(b0, .inr (4, [.ref h0, .int cl, .int be, .int co, .int le, .int ro, .int sa, .int ks, .ref b1, .ref b2])), (h0, .inr (0, [.int sec, .ref h1, .int pw]))] H1 := hP1
          have hD1 : va_D _ [(b0, .inr (4, [.ref h0, .int cl, .int be, .int co, .int le, .int ro, .int sa, .int ks, .ref b1, .ref b2])), (h0, .inr (0, [.int sec, .ref h1, .int pw]))] := hD1
          obtain ⟨hP, hD⟩ := va_join (wr := []) (w1 := [(b0, .inr (4, [.ref h0, .int cl, .int be, .int co, .int le, .int ro, .int sa, .int ks, .ref b1, .ref b2])), (h0, .inr (0, [.int sec, .ref h1, .int pw]))]) hP hD [0, 1] [] rfl rfl (by decide) (by decide) hk1 hFc hP1 hD1
          generalize H1 = H at hP hS ⊢
          have hP : va_P (dC, dI) classes [(b0, .inr (4, [.ref h0, .int cl, .int be, .int co, .int le, .int ro, .int sa, .int ks, .ref b1, .ref b2])), (h0, .inr (0, [.int sec, .ref h1, .int pw]))] H := hP
          have hD : va_D A [(b0, .inr (4, [.ref h0, .int cl, .int be, .int co, .int le, .int ro, .int sa, .int ks, .ref b1, .ref b2])), (h0, .inr (0, [.int sec, .ref h1, .int pw]))] := hD
          refine lv_iload hx hb d_Tb_leastLength_30 (lv_at hl 4 rfl) ?_
          have hPc := hP.sub (ws' := []) [] rfl
          have hDc := hD.sub (ws' := []) [] (by decide) rfl
          have hKc := hK.sub (tys' := []) [] rfl
          have hFc := va_free (wc := []) hD hS hA [] rfl
          refine va_calli (va_runS (As := [.int r_4, .int (nI i)]) (rest := []) ⟨hx, hb, hml, hown, hts⟩ (c_Tb_isEnough l dC dI H.size r_4 (nI i)) (va_cwS 2 hts (gwS good_Tb (k_Tb_35) (k_Tb_36) (k_Tb_0) (wcs (k_Tb_37) (fun _ h => h))) rfl rfl rfl (by decide +kernel) ⟨Nat.le_of_ble_eq_true rfl, Nat.le_of_ble_eq_true rfl⟩) (ps_of hPc hKc hDc) rfl rfl hl.1 rfl (lv_room (Nat.le_of_ble_eq_true rfl)) d_Tb_leastLength_32 ⟨by decide, by decide⟩) hS (fun q _ h => hFc q h) hFc (fun r_5 u t H1 locs ht hvm hw hB hz1 hk1 hS => ?_)
          have er_5 := hw
          obtain ⟨hP1, hK1, hD1⟩ := hB
          rw [ht] at hP1
          have hP1 : va_P (dC, dI) classes [] H1 := hP1
          have hD1 : va_D _ [] := hD1
          obtain ⟨hP, hD⟩ := va_join (wr := [(b0, .inr (4, [.ref h0, .int cl, .int be, .int co, .int le, .int ro, .int sa, .int ks, .ref b1, .ref b2])), (h0, .inr (0, [.int sec, .ref h1, .int pw]))]) (w1 := []) hP hD [] [0, 1] rfl rfl (by decide) (by decide) hk1 hFc hP1 hD1
          generalize H1 = H at hP hS ⊢
          have hP : va_P (dC, dI) classes [(b0, .inr (4, [.ref h0, .int cl, .int be, .int co, .int le, .int ro, .int sa, .int ks, .ref b1, .ref b2])), (h0, .inr (0, [.int sec, .ref h1, .int pw]))] H := hP
          have hD : va_D A [(b0, .inr (4, [.ref h0, .int cl, .int be, .int co, .int le, .int ro, .int sa, .int ks, .ref b1, .ref b2])), (h0, .inr (0, [.int sec, .ref h1, .int pw]))] := hD
          refine lv_if_eq (tgt := 41) hx hb d_Tb_leastLength_35 (by decide) (fun c_6 => ?_) (fun c_6 => ?_)
          · refine lv_iinc (v := nI (i + 1)) (lv' := [(4, .int (nI (i + 1))), (0, .ref b0), (1, .int p1), (2, .int p2), (3, .int p3)]) hx hb d_Tb_leastLength_41 hl (k := 4) rfl (by exact nI_1 i) (by decide) rfl (fun ls hl => ?_)
            refine lv_goto (tgt := 3) hx hb d_Tb_leastLength_44 (by decide) ?_
            exact ih (i + 1) _ _ _ (by omega) (by omega) (by omega) ((tb_lst_no (fun h => h.2 (by rw [← er_4, ← er_5]; exact c_6)) hi32).trans he) hP hD hS (lv_sub hl [1, 2, 3, 4, 0] rfl)
          · refine lv_iload hx hb d_Tb_leastLength_38 (lv_at hl 4 rfl) ?_
            rw [hQ]
            exact W.iret (v := (nI i)) hx hb hr (fun t ht hW => ⟨⟨(nI i), (), rfl, (tb_lst_yes ⟨fun h => c_3 (by rw [er_2]; exact h), fun h => c_6 (by rw [er_5, er_4]; exact h)⟩ hi32).trans he, by rw [ht]; exact hP, va_K.moved hW.alike hK, hD⟩, hS.F ht⟩) hS.2.2 d_Tb_leastLength_40
  refine lv_iconst (v := 1) hx hb d_Tb_leastLength_0 (by decide) ?_
  refine lv_istore (lv' := [(4, .int 1), (0, .ref b0), (1, .int p1), (2, .int p2), (3, .int p3)]) hx hb d_Tb_leastLength_1 hl (by decide) rfl (fun ls hl => ?_)
  exact hL3 33 1 _ _ _ (by omega) (by omega) (by omega) rfl hP hD hS (lv_sub hl [1, 2, 3, 4, 0] rfl)
