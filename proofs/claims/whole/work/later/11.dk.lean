/-- what a Disk reads and writes: n bytes f -/
def dk_one (n : Nat) (f : Nat → Int32) (a : Int32) : Int32 := if a < 0 then 0 else if nI n ≤ a then 0 else f a.toNatClampNeg &&& 255
def dk_two (n : Nat) (f : Nat → Int32) (a : Int32) : Int32 := if a < 0 then 0 else if a ≤ nI n - 2 then (f a.toNatClampNeg &&& 255) ||| ((f (a + 1).toNatClampNeg &&& 255) <<< ((8 : Int32) &&& 31)) else 0
def dk_four (n : Nat) (f : Nat → Int32) (a : Int32) : Int32 := if a < 0 then 0 else if a ≤ nI n - 4 then (((f a.toNatClampNeg &&& 255) ||| ((f (a + 1).toNatClampNeg &&& 255) <<< ((8 : Int32) &&& 31))) ||| ((f (a + 2).toNatClampNeg &&& 255) <<< ((16 : Int32) &&& 31))) ||| ((f (a + 3).toNatClampNeg &&& 255) <<< ((24 : Int32) &&& 31)) else 0
def dk_put1 (n : Nat) (f : Nat → Int32) (a v : Int32) : Nat → Int32 := if a < 0 then f else if nI n ≤ a then f else upd f a.toNatClampNeg (vp_nar .byte v.toInt8.toInt32)
def dk_put2 (n : Nat) (f : Nat → Int32) (a v : Int32) : Nat → Int32 := if a < 0 then f else if nI n - 2 < a then f else upd (upd f a.toNatClampNeg (vp_nar .byte v.toInt8.toInt32)) (a + 1).toNatClampNeg (vp_nar .byte (v >>> ((8 : Int32) &&& 31)).toInt8.toInt32)
def dk_put4 (n : Nat) (f : Nat → Int32) (a v : Int32) : Nat → Int32 := if a < 0 then f else if nI n - 4 < a then f else upd (upd (upd (upd f a.toNatClampNeg (vp_nar .byte v.toInt8.toInt32)) (a + 1).toNatClampNeg (vp_nar .byte (v >>> ((8 : Int32) &&& 31)).toInt8.toInt32)) (a + 2).toNatClampNeg (vp_nar .byte (v >>> ((16 : Int32) &&& 31)).toInt8.toInt32)) (a + 3).toNatClampNeg (vp_nar .byte (v >>> ((24 : Int32) &&& 31)).toInt8.toInt32)
def dk_has (sec s a : Int32) : Int32 := if s < 0 then 0 else if sec ≤ s then 0 else if a < 0 then 0 else if 512 ≤ a then 0 else 1
def dk_on (pw : Int32) : Int32 := if pw = 0 then 0 else 1
set_option maxHeartbeats 4000000 in
set_option maxRecDepth 100000 in
/-- has: whether there is such a byte -/
theorem c_Dk_has (l : Launch) (dC : Nat → ClassId) (dI : Nat → Nat → Nat) (h0 h1 sz : Nat) (cB : ClassId) (sec pw : Int32) (n : Nat) (f : Nat → Int32) (h4 : 4 ≤ n) (hn : n < 2 ^ 31) (p1 p2 : Int32) : Met l y_Dk_has (.code y_Dk_has b_Dk_has 3 (some .boolean) :: V_Dk) ({ frames := 0, cells := 0, slots := 0, locals := 0 }) (va_Pc [.ref h0, .int p1, .int p2] (fun U => U.heap.size = sz ∧ at_Dk dC dI (fun _ => True) h0 h1 cB sec n (pw, f) U)) (va_Qi (fun (r : Int32) (u : Int32 × (Nat → Int32)) => r = dk_has sec p1 p2 ∧ u = (pw, f)) (at_Dk dC dI (va_A (wDk h0 h1 cB sec n (pw, f)) sz) h0 h1 cB sec n) (va_A (wDk h0 h1 cB sec n (pw, f)) sz)) 0 0 (va_A (wDk h0 h1 cB sec n (pw, f)) sz) := by
  refine Met.ofW (cc := b_Dk_has) (maxL := 3) (ret := (some .boolean)) (by decide) rfl ?_
  intro p e s m args below meth c s₁ B hml hv
  obtain ⟨rfl, hsz, hP, hK, hD0⟩ := hv
  have hx := B.exec
  have hb := B.bytes
  have hr := B.returns
  have hts0 := atoms_spec (ws := .code y_Dk_has b_Dk_has 3 (some .boolean) :: V_Dk) B.pre
  have hts : ∀ w ∈ V_Dk, w.before [.ref h0, .int p1, .int p2].toArray s = true := fun w h => hts0 w (List.mem_cons_of_mem _ h)
  have hown : s.vm.findClass R_Dk = some m.cls := findClass_of_methodNamed B.named
  have hlocks := B.notSynchronized
  subst hsz
  have hD := hD0.self (sz := s.heap.size)
  generalize hAe : va_A [(h0, .inr (0, [.int sec, .ref h1, .int pw])), (h1, .inl (cB, n, .inl f))] s.heap.size = A at hD ⊢
  have hA : ∀ q : Nat, s.heap.size ≤ q → A q := fun q h => by rw [← hAe]; exact Or.inr h
  have hS : va_S A s.heap s.heap [] := va_S.rf
  have hP : va_P (dC, dI) classes [(h0, .inr (0, [.int sec, .ref h1, .int pw])), (h1, .inl (cB, n, .inl f))] s.heap := hP
  have hl := lv_entry ([.ref h0, .int p1, .int p2]) (n := 3) (Nat.le_of_ble_eq_true rfl)
  rw [lg_entry_eq]
  generalize (lg_sl ([.ref h0, .int p1, .int p2]) ++ List.replicate (3 - (lg_sl ([.ref h0, .int p1, .int p2])).length) Slot.unset).toArray = ls at hl ⊢
  have hl : lv_has ls 3 [(0, .ref h0), (1, .int p1), (2, .int p2)] := hl
  refine lv_iload_n hx hb d_Dk_has_0 rfl (lv_at hl 1 rfl) ?_
  refine lv_if_lt (tgt := 27) hx hb d_Dk_has_1 (by decide) (fun c_1 => ?_) (fun c_1 => ?_)
  · refine lv_iconst (v := 0) hx hb d_Dk_has_27 (by decide) ?_
    have hP9 : va_P (dC, dI) classes (wDk h0 h1 cB sec n (pw, f)) _ := hP
    have hD9 : va_D A (wDk h0 h1 cB sec n (pw, f)) := hD
    exact W.zret (v := 0) hx hb hr rfl (fun t ht hW => ⟨⟨0, (pw, f), rfl, ⟨by rw [dk_has, if_pos c_1], rfl⟩, by rw [ht]; exact hP9, va_K.moved hW.alike hK, hD9⟩, hS.F ht⟩) hS.2.2 d_Dk_has_28
  · refine lv_iload_n hx hb d_Dk_has_4 rfl (lv_at hl 1 rfl) ?_
    refine lv_aload_n hx hb d_Dk_has_5 rfl (lv_at hl 0 rfl) ?_
    refine va_get (D := (dC, dI)) (ci := 0) (v := .int sec) (C := R_Dk) (T := F_Dk) (N := 3) hx hb hts i_Dk hown hK hP 0 rfl rfl 0 (by decide) (hts _ (k_Dk_5)) (fun _ h9 => h9) rfl d_Dk_has_6 ?_
    refine lv_icmp_ge (tgt := 27) hx hb d_Dk_has_9 (by decide) (fun c_2 => ?_) (fun c_2 => ?_)
    · refine lv_iconst (v := 0) hx hb d_Dk_has_27 (by decide) ?_
      have hP9 : va_P (dC, dI) classes (wDk h0 h1 cB sec n (pw, f)) _ := hP
      have hD9 : va_D A (wDk h0 h1 cB sec n (pw, f)) := hD
      exact W.zret (v := 0) hx hb hr rfl (fun t ht hW => ⟨⟨0, (pw, f), rfl, ⟨by rw [dk_has, if_neg c_1, if_pos c_2], rfl⟩, by rw [ht]; exact hP9, va_K.moved hW.alike hK, hD9⟩, hS.F ht⟩) hS.2.2 d_Dk_has_28
    · refine lv_iload_n hx hb d_Dk_has_12 rfl (lv_at hl 2 rfl) ?_
      refine lv_if_lt (tgt := 27) hx hb d_Dk_has_13 (by decide) (fun c_3 => ?_) (fun c_3 => ?_)
      · refine lv_iconst (v := 0) hx hb d_Dk_has_27 (by decide) ?_
        have hP9 : va_P (dC, dI) classes (wDk h0 h1 cB sec n (pw, f)) _ := hP
        have hD9 : va_D A (wDk h0 h1 cB sec n (pw, f)) := hD
        exact W.zret (v := 0) hx hb hr rfl (fun t ht hW => ⟨⟨0, (pw, f), rfl, ⟨by rw [dk_has, if_neg c_1, if_neg c_2, if_pos c_3], rfl⟩, by rw [ht]; exact hP9, va_K.moved hW.alike hK, hD9⟩, hS.F ht⟩) hS.2.2 d_Dk_has_28
      · refine lv_iload_n hx hb d_Dk_has_16 rfl (lv_at hl 2 rfl) ?_
        refine lv_sipush (v := 512) hx hb d_Dk_has_17 (by decide) ?_
        refine lv_icmp_ge (tgt := 27) hx hb d_Dk_has_20 (by decide) (fun c_4 => ?_) (fun c_4 => ?_)
        · refine lv_iconst (v := 0) hx hb d_Dk_has_27 (by decide) ?_
          have hP9 : va_P (dC, dI) classes (wDk h0 h1 cB sec n (pw, f)) _ := hP
          have hD9 : va_D A (wDk h0 h1 cB sec n (pw, f)) := hD
          exact W.zret (v := 0) hx hb hr rfl (fun t ht hW => ⟨⟨0, (pw, f), rfl, ⟨by rw [dk_has, if_neg c_1, if_neg c_2, if_neg c_3, if_pos c_4], rfl⟩, by rw [ht]; exact hP9, va_K.moved hW.alike hK, hD9⟩, hS.F ht⟩) hS.2.2 d_Dk_has_28
        · refine lv_iconst (v := 1) hx hb d_Dk_has_23 (by decide) ?_
          refine lv_goto (tgt := 28) hx hb d_Dk_has_24 (by decide) ?_
          have hP9 : va_P (dC, dI) classes (wDk h0 h1 cB sec n (pw, f)) _ := hP
          have hD9 : va_D A (wDk h0 h1 cB sec n (pw, f)) := hD
          exact W.zret (v := 1) hx hb hr rfl (fun t ht hW => ⟨⟨1, (pw, f), rfl, ⟨by rw [dk_has, if_neg c_1, if_neg c_2, if_neg c_3, if_neg c_4], rfl⟩, by rw [ht]; exact hP9, va_K.moved hW.alike hK, hD9⟩, hS.F ht⟩) hS.2.2 d_Dk_has_28
set_option maxHeartbeats 4000000 in
set_option maxRecDepth 100000 in
/-- one: a byte, 0 outside -/
theorem c_Dk_one (l : Launch) (dC : Nat → ClassId) (dI : Nat → Nat → Nat) (h0 h1 sz : Nat) (cB : ClassId) (sec pw : Int32) (n : Nat) (f : Nat → Int32) (h4 : 4 ≤ n) (hn : n < 2 ^ 31) (p1 : Int32) : Met l y_Dk_one (.code y_Dk_one b_Dk_one 2 (some .int) :: V_Dk) ({ frames := 0, cells := 0, slots := 0, locals := 0 }) (va_Pc [.ref h0, .int p1] (fun U => U.heap.size = sz ∧ at_Dk dC dI (fun _ => True) h0 h1 cB sec n (pw, f) U)) (va_Qi (fun (r : Int32) (u : Int32 × (Nat → Int32)) => r = dk_one n f p1 ∧ u = (pw, f)) (at_Dk dC dI (va_A (wDk h0 h1 cB sec n (pw, f)) sz) h0 h1 cB sec n) (va_A (wDk h0 h1 cB sec n (pw, f)) sz)) 0 0 (va_A (wDk h0 h1 cB sec n (pw, f)) sz) := by
  refine Met.ofW (cc := b_Dk_one) (maxL := 2) (ret := (some .int)) (by decide) rfl ?_
  intro p e s m args below meth c s₁ B hml hv
  obtain ⟨rfl, hsz, hP, hK, hD0⟩ := hv
  have hx := B.exec
  have hb := B.bytes
  have hr := B.returns
  have hts0 := atoms_spec (ws := .code y_Dk_one b_Dk_one 2 (some .int) :: V_Dk) B.pre
  have hts : ∀ w ∈ V_Dk, w.before [.ref h0, .int p1].toArray s = true := fun w h => hts0 w (List.mem_cons_of_mem _ h)
  have hown : s.vm.findClass R_Dk = some m.cls := findClass_of_methodNamed B.named
  have hlocks := B.notSynchronized
  subst hsz
  have hD := hD0.self (sz := s.heap.size)
  generalize hAe : va_A [(h0, .inr (0, [.int sec, .ref h1, .int pw])), (h1, .inl (cB, n, .inl f))] s.heap.size = A at hD ⊢
  have hA : ∀ q : Nat, s.heap.size ≤ q → A q := fun q h => by rw [← hAe]; exact Or.inr h
  have hS : va_S A s.heap s.heap [] := va_S.rf
  have hP : va_P (dC, dI) classes [(h0, .inr (0, [.int sec, .ref h1, .int pw])), (h1, .inl (cB, n, .inl f))] s.heap := hP
  have hl := lv_entry ([.ref h0, .int p1]) (n := 2) (Nat.le_of_ble_eq_true rfl)
  rw [lg_entry_eq]
  generalize (lg_sl ([.ref h0, .int p1]) ++ List.replicate (2 - (lg_sl ([.ref h0, .int p1])).length) Slot.unset).toArray = ls at hl ⊢
  have hl : lv_has ls 2 [(0, .ref h0), (1, .int p1)] := hl
  refine lv_iload_n hx hb d_Dk_one_0 rfl (lv_at hl 1 rfl) ?_
  refine lv_if_lt (tgt := 26) hx hb d_Dk_one_1 (by decide) (fun c_1 => ?_) (fun c_1 => ?_)
  · refine lv_iconst (v := 0) hx hb d_Dk_one_26 (by decide) ?_
    have hP9 : va_P (dC, dI) classes (wDk h0 h1 cB sec n (pw, f)) _ := hP
    have hD9 : va_D A (wDk h0 h1 cB sec n (pw, f)) := hD
    exact W.iret (v := 0) hx hb hr (fun t ht hW => ⟨⟨0, (pw, f), rfl, ⟨by rw [dk_one, if_pos c_1], rfl⟩, by rw [ht]; exact hP9, va_K.moved hW.alike hK, hD9⟩, hS.F ht⟩) hS.2.2 d_Dk_one_27
  · refine lv_iload_n hx hb d_Dk_one_4 rfl (lv_at hl 1 rfl) ?_
    refine lv_aload_n hx hb d_Dk_one_5 rfl (lv_at hl 0 rfl) ?_
    refine va_get (D := (dC, dI)) (ci := 0) (v := .ref h1) (C := R_Dk) (T := F_Dk) (N := 3) hx hb hts i_Dk hown hK hP 0 rfl rfl 1 (by decide) (hts _ (k_Dk_6)) (fun _ h9 => h9) rfl d_Dk_one_6 ?_
    refine va_alen (v := nI n) hx hb hK hP 1 0 rfl rfl rfl d_Dk_one_9 ?_
    refine lv_icmp_ge (tgt := 26) hx hb d_Dk_one_10 (by decide) (fun c_2 => ?_) (fun c_2 => ?_)
    · refine lv_iconst (v := 0) hx hb d_Dk_one_26 (by decide) ?_
      have hP9 : va_P (dC, dI) classes (wDk h0 h1 cB sec n (pw, f)) _ := hP
      have hD9 : va_D A (wDk h0 h1 cB sec n (pw, f)) := hD
      exact W.iret (v := 0) hx hb hr (fun t ht hW => ⟨⟨0, (pw, f), rfl, ⟨by rw [dk_one, if_neg c_1, if_pos c_2], rfl⟩, by rw [ht]; exact hP9, va_K.moved hW.alike hK, hD9⟩, hS.F ht⟩) hS.2.2 d_Dk_one_27
    · refine lv_aload_n hx hb d_Dk_one_13 rfl (lv_at hl 0 rfl) ?_
      refine va_get (D := (dC, dI)) (ci := 0) (v := .ref h1) (C := R_Dk) (T := F_Dk) (N := 3) hx hb hts i_Dk hown hK hP 0 rfl rfl 1 (by decide) (hts _ (k_Dk_6)) (fun _ h9 => h9) rfl d_Dk_one_14 ?_
      refine lv_iload_n hx hb d_Dk_one_17 rfl (lv_at hl 1 rfl) ?_
      refine va_bald hx hb hK hP 1 0 rfl rfl (in_of c_1 c_2 hn) d_Dk_one_18 ?_
      refine lv_sipush (v := 255) hx hb d_Dk_one_19 (by decide) ?_
      refine lv_iand hx hb d_Dk_one_22 ?_
      refine lv_goto (tgt := 27) hx hb d_Dk_one_23 (by decide) ?_
      have hP9 : va_P (dC, dI) classes (wDk h0 h1 cB sec n (pw, f)) _ := hP
      have hD9 : va_D A (wDk h0 h1 cB sec n (pw, f)) := hD
      exact W.iret (v := ((f p1.toNatClampNeg) &&& 255)) hx hb hr (fun t ht hW => ⟨⟨((f p1.toNatClampNeg) &&& 255), (pw, f), rfl, ⟨by rw [dk_one, if_neg c_1, if_neg c_2], rfl⟩, by rw [ht]; exact hP9, va_K.moved hW.alike hK, hD9⟩, hS.F ht⟩) hS.2.2 d_Dk_one_27
set_option maxHeartbeats 4000000 in
set_option maxRecDepth 100000 in
/-- two -/
theorem c_Dk_two (l : Launch) (dC : Nat → ClassId) (dI : Nat → Nat → Nat) (h0 h1 sz : Nat) (cB : ClassId) (sec pw : Int32) (n : Nat) (f : Nat → Int32) (h4 : 4 ≤ n) (hn : n < 2 ^ 31) (p1 : Int32) : Met l y_Dk_two (.code y_Dk_two b_Dk_two 2 (some .int) :: V_Dk) ({ frames := 0, cells := 0, slots := 0, locals := 0 }) (va_Pc [.ref h0, .int p1] (fun U => U.heap.size = sz ∧ at_Dk dC dI (fun _ => True) h0 h1 cB sec n (pw, f) U)) (va_Qi (fun (r : Int32) (u : Int32 × (Nat → Int32)) => r = dk_two n f p1 ∧ u = (pw, f)) (at_Dk dC dI (va_A (wDk h0 h1 cB sec n (pw, f)) sz) h0 h1 cB sec n) (va_A (wDk h0 h1 cB sec n (pw, f)) sz)) 0 0 (va_A (wDk h0 h1 cB sec n (pw, f)) sz) := by
  refine Met.ofW (cc := b_Dk_two) (maxL := 2) (ret := (some .int)) (by decide) rfl ?_
  intro p e s m args below meth c s₁ B hml hv
  obtain ⟨rfl, hsz, hP, hK, hD0⟩ := hv
  have hx := B.exec
  have hb := B.bytes
  have hr := B.returns
  have hts0 := atoms_spec (ws := .code y_Dk_two b_Dk_two 2 (some .int) :: V_Dk) B.pre
  have hts : ∀ w ∈ V_Dk, w.before [.ref h0, .int p1].toArray s = true := fun w h => hts0 w (List.mem_cons_of_mem _ h)
  have hown : s.vm.findClass R_Dk = some m.cls := findClass_of_methodNamed B.named
  have hlocks := B.notSynchronized
  subst hsz
  have hD := hD0.self (sz := s.heap.size)
  generalize hAe : va_A [(h0, .inr (0, [.int sec, .ref h1, .int pw])), (h1, .inl (cB, n, .inl f))] s.heap.size = A at hD ⊢
  have hA : ∀ q : Nat, s.heap.size ≤ q → A q := fun q h => by rw [← hAe]; exact Or.inr h
  have hS : va_S A s.heap s.heap [] := va_S.rf
  have hP : va_P (dC, dI) classes [(h0, .inr (0, [.int sec, .ref h1, .int pw])), (h1, .inl (cB, n, .inl f))] s.heap := hP
  have hl := lv_entry ([.ref h0, .int p1]) (n := 2) (Nat.le_of_ble_eq_true rfl)
  rw [lg_entry_eq]
  generalize (lg_sl ([.ref h0, .int p1]) ++ List.replicate (2 - (lg_sl ([.ref h0, .int p1])).length) Slot.unset).toArray = ls at hl ⊢
  have hl : lv_has ls 2 [(0, .ref h0), (1, .int p1)] := hl
  refine lv_iload_n hx hb d_Dk_two_0 rfl (lv_at hl 1 rfl) ?_
  refine lv_if_lt (tgt := 15) hx hb d_Dk_two_1 (by decide) (fun c_1 => ?_) (fun c_1 => ?_)
  · refine lv_iconst (v := 0) hx hb d_Dk_two_15 (by decide) ?_
    have hP9 : va_P (dC, dI) classes (wDk h0 h1 cB sec n (pw, f)) _ := hP
    have hD9 : va_D A (wDk h0 h1 cB sec n (pw, f)) := hD
    exact W.iret (v := 0) hx hb hr (fun t ht hW => ⟨⟨0, (pw, f), rfl, ⟨by rw [dk_two, if_pos c_1], rfl⟩, by rw [ht]; exact hP9, va_K.moved hW.alike hK, hD9⟩, hS.F ht⟩) hS.2.2 d_Dk_two_16
  · refine lv_iload_n hx hb d_Dk_two_4 rfl (lv_at hl 1 rfl) ?_
    refine lv_aload_n hx hb d_Dk_two_5 rfl (lv_at hl 0 rfl) ?_
    refine va_get (D := (dC, dI)) (ci := 0) (v := .ref h1) (C := R_Dk) (T := F_Dk) (N := 3) hx hb hts i_Dk hown hK hP 0 rfl rfl 1 (by decide) (hts _ (k_Dk_6)) (fun _ h9 => h9) rfl d_Dk_two_6 ?_
    refine va_alen (v := nI n) hx hb hK hP 1 0 rfl rfl rfl d_Dk_two_9 ?_
    refine lv_iconst (v := 2) hx hb d_Dk_two_10 (by decide) ?_
    refine lv_isub hx hb d_Dk_two_11 ?_
    refine lv_icmp_le (tgt := 17) hx hb d_Dk_two_12 (by decide) (fun c_2 => ?_) (fun c_2 => ?_)
    · refine lv_aload_n hx hb d_Dk_two_17 rfl (lv_at hl 0 rfl) ?_
      refine va_get (D := (dC, dI)) (ci := 0) (v := .ref h1) (C := R_Dk) (T := F_Dk) (N := 3) hx hb hts i_Dk hown hK hP 0 rfl rfl 1 (by decide) (hts _ (k_Dk_6)) (fun _ h9 => h9) rfl d_Dk_two_18 ?_
      refine lv_iload_n hx hb d_Dk_two_21 rfl (lv_at hl 1 rfl) ?_
      refine va_bald hx hb hK hP 1 0 rfl rfl (in_k0 (k := 2) c_1 c_2 (by omega) (by decide) hn) d_Dk_two_22 ?_
      refine lv_sipush (v := 255) hx hb d_Dk_two_23 (by decide) ?_
      refine lv_iand hx hb d_Dk_two_26 ?_
      refine lv_aload_n hx hb d_Dk_two_27 rfl (lv_at hl 0 rfl) ?_
      refine va_get (D := (dC, dI)) (ci := 0) (v := .ref h1) (C := R_Dk) (T := F_Dk) (N := 3) hx hb hts i_Dk hown hK hP 0 rfl rfl 1 (by decide) (hts _ (k_Dk_6)) (fun _ h9 => h9) rfl d_Dk_two_28 ?_
      refine lv_iload_n hx hb d_Dk_two_31 rfl (lv_at hl 1 rfl) ?_
      refine lv_iconst (v := 1) hx hb d_Dk_two_32 (by decide) ?_
      refine lv_iadd hx hb d_Dk_two_33 ?_
      refine va_bald hx hb hK hP 1 0 rfl rfl (in_kj (k := 2) (i := 1) c_1 c_2 (by omega) (by decide) hn) d_Dk_two_34 ?_
      refine lv_sipush (v := 255) hx hb d_Dk_two_35 (by decide) ?_
      refine lv_iand hx hb d_Dk_two_38 ?_
      refine lv_bipush (v := 8) hx hb d_Dk_two_39 (by decide) ?_
      refine lv_ishl hx hb d_Dk_two_41 ?_
      refine lv_ior hx hb d_Dk_two_42 ?_
      have hP9 : va_P (dC, dI) classes (wDk h0 h1 cB sec n (pw, f)) _ := hP
      have hD9 : va_D A (wDk h0 h1 cB sec n (pw, f)) := hD
      exact W.iret (v := (((f p1.toNatClampNeg) &&& 255) ||| (((f (p1 + 1).toNatClampNeg) &&& 255) <<< ((8 : Int32) &&& 31)))) hx hb hr (fun t ht hW => ⟨⟨(((f p1.toNatClampNeg) &&& 255) ||| (((f (p1 + 1).toNatClampNeg) &&& 255) <<< ((8 : Int32) &&& 31))), (pw, f), rfl, ⟨by rw [dk_two, if_neg c_1, if_pos c_2], rfl⟩, by rw [ht]; exact hP9, va_K.moved hW.alike hK, hD9⟩, hS.F ht⟩) hS.2.2 d_Dk_two_43
    · refine lv_iconst (v := 0) hx hb d_Dk_two_15 (by decide) ?_
      have hP9 : va_P (dC, dI) classes (wDk h0 h1 cB sec n (pw, f)) _ := hP
      have hD9 : va_D A (wDk h0 h1 cB sec n (pw, f)) := hD
      exact W.iret (v := 0) hx hb hr (fun t ht hW => ⟨⟨0, (pw, f), rfl, ⟨by rw [dk_two, if_neg c_1, if_neg c_2], rfl⟩, by rw [ht]; exact hP9, va_K.moved hW.alike hK, hD9⟩, hS.F ht⟩) hS.2.2 d_Dk_two_16
set_option maxHeartbeats 4000000 in
set_option maxRecDepth 100000 in
/-- four -/
theorem c_Dk_four (l : Launch) (dC : Nat → ClassId) (dI : Nat → Nat → Nat) (h0 h1 sz : Nat) (cB : ClassId) (sec pw : Int32) (n : Nat) (f : Nat → Int32) (h4 : 4 ≤ n) (hn : n < 2 ^ 31) (p1 : Int32) : Met l y_Dk_four (.code y_Dk_four b_Dk_four 2 (some .int) :: V_Dk) ({ frames := 0, cells := 0, slots := 0, locals := 0 }) (va_Pc [.ref h0, .int p1] (fun U => U.heap.size = sz ∧ at_Dk dC dI (fun _ => True) h0 h1 cB sec n (pw, f) U)) (va_Qi (fun (r : Int32) (u : Int32 × (Nat → Int32)) => r = dk_four n f p1 ∧ u = (pw, f)) (at_Dk dC dI (va_A (wDk h0 h1 cB sec n (pw, f)) sz) h0 h1 cB sec n) (va_A (wDk h0 h1 cB sec n (pw, f)) sz)) 0 0 (va_A (wDk h0 h1 cB sec n (pw, f)) sz) := by
  refine Met.ofW (cc := b_Dk_four) (maxL := 2) (ret := (some .int)) (by decide) rfl ?_
  intro p e s m args below meth c s₁ B hml hv
  obtain ⟨rfl, hsz, hP, hK, hD0⟩ := hv
  have hx := B.exec
  have hb := B.bytes
  have hr := B.returns
  have hts0 := atoms_spec (ws := .code y_Dk_four b_Dk_four 2 (some .int) :: V_Dk) B.pre
  have hts : ∀ w ∈ V_Dk, w.before [.ref h0, .int p1].toArray s = true := fun w h => hts0 w (List.mem_cons_of_mem _ h)
  have hown : s.vm.findClass R_Dk = some m.cls := findClass_of_methodNamed B.named
  have hlocks := B.notSynchronized
  subst hsz
  have hD := hD0.self (sz := s.heap.size)
  generalize hAe : va_A [(h0, .inr (0, [.int sec, .ref h1, .int pw])), (h1, .inl (cB, n, .inl f))] s.heap.size = A at hD ⊢
  have hA : ∀ q : Nat, s.heap.size ≤ q → A q := fun q h => by rw [← hAe]; exact Or.inr h
  have hS : va_S A s.heap s.heap [] := va_S.rf
  have hP : va_P (dC, dI) classes [(h0, .inr (0, [.int sec, .ref h1, .int pw])), (h1, .inl (cB, n, .inl f))] s.heap := hP
  have hl := lv_entry ([.ref h0, .int p1]) (n := 2) (Nat.le_of_ble_eq_true rfl)
  rw [lg_entry_eq]
  generalize (lg_sl ([.ref h0, .int p1]) ++ List.replicate (2 - (lg_sl ([.ref h0, .int p1])).length) Slot.unset).toArray = ls at hl ⊢
  have hl : lv_has ls 2 [(0, .ref h0), (1, .int p1)] := hl
  refine lv_iload_n hx hb d_Dk_four_0 rfl (lv_at hl 1 rfl) ?_
  refine lv_if_lt (tgt := 15) hx hb d_Dk_four_1 (by decide) (fun c_1 => ?_) (fun c_1 => ?_)
  · refine lv_iconst (v := 0) hx hb d_Dk_four_15 (by decide) ?_
    have hP9 : va_P (dC, dI) classes (wDk h0 h1 cB sec n (pw, f)) _ := hP
    have hD9 : va_D A (wDk h0 h1 cB sec n (pw, f)) := hD
    exact W.iret (v := 0) hx hb hr (fun t ht hW => ⟨⟨0, (pw, f), rfl, ⟨by rw [dk_four, if_pos c_1], rfl⟩, by rw [ht]; exact hP9, va_K.moved hW.alike hK, hD9⟩, hS.F ht⟩) hS.2.2 d_Dk_four_16
  · refine lv_iload_n hx hb d_Dk_four_4 rfl (lv_at hl 1 rfl) ?_
    refine lv_aload_n hx hb d_Dk_four_5 rfl (lv_at hl 0 rfl) ?_
    refine va_get (D := (dC, dI)) (ci := 0) (v := .ref h1) (C := R_Dk) (T := F_Dk) (N := 3) hx hb hts i_Dk hown hK hP 0 rfl rfl 1 (by decide) (hts _ (k_Dk_6)) (fun _ h9 => h9) rfl d_Dk_four_6 ?_
    refine va_alen (v := nI n) hx hb hK hP 1 0 rfl rfl rfl d_Dk_four_9 ?_
    refine lv_iconst (v := 4) hx hb d_Dk_four_10 (by decide) ?_
    refine lv_isub hx hb d_Dk_four_11 ?_
    refine lv_icmp_le (tgt := 17) hx hb d_Dk_four_12 (by decide) (fun c_2 => ?_) (fun c_2 => ?_)
    · refine lv_aload_n hx hb d_Dk_four_17 rfl (lv_at hl 0 rfl) ?_
      refine va_get (D := (dC, dI)) (ci := 0) (v := .ref h1) (C := R_Dk) (T := F_Dk) (N := 3) hx hb hts i_Dk hown hK hP 0 rfl rfl 1 (by decide) (hts _ (k_Dk_6)) (fun _ h9 => h9) rfl d_Dk_four_18 ?_
      refine lv_iload_n hx hb d_Dk_four_21 rfl (lv_at hl 1 rfl) ?_
      refine va_bald hx hb hK hP 1 0 rfl rfl (in_k0 (k := 4) c_1 c_2 (by omega) (by decide) hn) d_Dk_four_22 ?_
      refine lv_sipush (v := 255) hx hb d_Dk_four_23 (by decide) ?_
      refine lv_iand hx hb d_Dk_four_26 ?_
      refine lv_aload_n hx hb d_Dk_four_27 rfl (lv_at hl 0 rfl) ?_
      refine va_get (D := (dC, dI)) (ci := 0) (v := .ref h1) (C := R_Dk) (T := F_Dk) (N := 3) hx hb hts i_Dk hown hK hP 0 rfl rfl 1 (by decide) (hts _ (k_Dk_6)) (fun _ h9 => h9) rfl d_Dk_four_28 ?_
      refine lv_iload_n hx hb d_Dk_four_31 rfl (lv_at hl 1 rfl) ?_
      refine lv_iconst (v := 1) hx hb d_Dk_four_32 (by decide) ?_
      refine lv_iadd hx hb d_Dk_four_33 ?_
      refine va_bald hx hb hK hP 1 0 rfl rfl (in_kj (k := 4) (i := 1) c_1 c_2 (by omega) (by decide) hn) d_Dk_four_34 ?_
      refine lv_sipush (v := 255) hx hb d_Dk_four_35 (by decide) ?_
      refine lv_iand hx hb d_Dk_four_38 ?_
      refine lv_bipush (v := 8) hx hb d_Dk_four_39 (by decide) ?_
      refine lv_ishl hx hb d_Dk_four_41 ?_
      refine lv_ior hx hb d_Dk_four_42 ?_
      refine lv_aload_n hx hb d_Dk_four_43 rfl (lv_at hl 0 rfl) ?_
      refine va_get (D := (dC, dI)) (ci := 0) (v := .ref h1) (C := R_Dk) (T := F_Dk) (N := 3) hx hb hts i_Dk hown hK hP 0 rfl rfl 1 (by decide) (hts _ (k_Dk_6)) (fun _ h9 => h9) rfl d_Dk_four_44 ?_
      refine lv_iload_n hx hb d_Dk_four_47 rfl (lv_at hl 1 rfl) ?_
      refine lv_iconst (v := 2) hx hb d_Dk_four_48 (by decide) ?_
      refine lv_iadd hx hb d_Dk_four_49 ?_
      refine va_bald hx hb hK hP 1 0 rfl rfl (in_kj (k := 4) (i := 2) c_1 c_2 (by omega) (by decide) hn) d_Dk_four_50 ?_
      refine lv_sipush (v := 255) hx hb d_Dk_four_51 (by decide) ?_
      refine lv_iand hx hb d_Dk_four_54 ?_
      refine lv_bipush (v := 16) hx hb d_Dk_four_55 (by decide) ?_
      refine lv_ishl hx hb d_Dk_four_57 ?_
      refine lv_ior hx hb d_Dk_four_58 ?_
      refine lv_aload_n hx hb d_Dk_four_59 rfl (lv_at hl 0 rfl) ?_
      refine va_get (D := (dC, dI)) (ci := 0) (v := .ref h1) (C := R_Dk) (T := F_Dk) (N := 3) hx hb hts i_Dk hown hK hP 0 rfl rfl 1 (by decide) (hts _ (k_Dk_6)) (fun _ h9 => h9) rfl d_Dk_four_60 ?_
      refine lv_iload_n hx hb d_Dk_four_63 rfl (lv_at hl 1 rfl) ?_
      refine lv_iconst (v := 3) hx hb d_Dk_four_64 (by decide) ?_
      refine lv_iadd hx hb d_Dk_four_65 ?_
      refine va_bald hx hb hK hP 1 0 rfl rfl (in_kj (k := 4) (i := 3) c_1 c_2 (by omega) (by decide) hn) d_Dk_four_66 ?_
      refine lv_sipush (v := 255) hx hb d_Dk_four_67 (by decide) ?_
      refine lv_iand hx hb d_Dk_four_70 ?_
      refine lv_bipush (v := 24) hx hb d_Dk_four_71 (by decide) ?_
      refine lv_ishl hx hb d_Dk_four_73 ?_
      refine lv_ior hx hb d_Dk_four_74 ?_
      have hP9 : va_P (dC, dI) classes (wDk h0 h1 cB sec n (pw, f)) _ := hP
      have hD9 : va_D A (wDk h0 h1 cB sec n (pw, f)) := hD
      exact W.iret (v := (((((f p1.toNatClampNeg) &&& 255) ||| (((f (p1 + 1).toNatClampNeg) &&& 255) <<< ((8 : Int32) &&& 31))) ||| (((f (p1 + 2).toNatClampNeg) &&& 255) <<< ((16 : Int32) &&& 31))) ||| (((f (p1 + 3).toNatClampNeg) &&& 255) <<< ((24 : Int32) &&& 31)))) hx hb hr (fun t ht hW => ⟨⟨(((((f p1.toNatClampNeg) &&& 255) ||| (((f (p1 + 1).toNatClampNeg) &&& 255) <<< ((8 : Int32) &&& 31))) ||| (((f (p1 + 2).toNatClampNeg) &&& 255) <<< ((16 : Int32) &&& 31))) ||| (((f (p1 + 3).toNatClampNeg) &&& 255) <<< ((24 : Int32) &&& 31))), (pw, f), rfl, ⟨by rw [dk_four, if_neg c_1, if_pos c_2], rfl⟩, by rw [ht]; exact hP9, va_K.moved hW.alike hK, hD9⟩, hS.F ht⟩) hS.2.2 d_Dk_four_75
    · refine lv_iconst (v := 0) hx hb d_Dk_four_15 (by decide) ?_
      have hP9 : va_P (dC, dI) classes (wDk h0 h1 cB sec n (pw, f)) _ := hP
      have hD9 : va_D A (wDk h0 h1 cB sec n (pw, f)) := hD
      exact W.iret (v := 0) hx hb hr (fun t ht hW => ⟨⟨0, (pw, f), rfl, ⟨by rw [dk_four, if_neg c_1, if_neg c_2], rfl⟩, by rw [ht]; exact hP9, va_K.moved hW.alike hK, hD9⟩, hS.F ht⟩) hS.2.2 d_Dk_four_16
set_option maxHeartbeats 4000000 in
set_option maxRecDepth 100000 in
/-- putOne -/
theorem c_Dk_putOne (l : Launch) (dC : Nat → ClassId) (dI : Nat → Nat → Nat) (h0 h1 sz : Nat) (cB : ClassId) (sec pw : Int32) (n : Nat) (f : Nat → Int32) (h4 : 4 ≤ n) (hn : n < 2 ^ 31) (p1 p2 : Int32) : Met l y_Dk_putOne (.code y_Dk_putOne b_Dk_putOne 3 none :: V_Dk) ({ frames := 0, cells := 0, slots := 0, locals := 0 }) (va_Pc [.ref h0, .int p1, .int p2] (fun U => U.heap.size = sz ∧ at_Dk dC dI (fun _ => True) h0 h1 cB sec n (pw, f) U)) (va_Qv (fun u : Int32 × (Nat → Int32) => u = (pw, dk_put1 n f p1 p2)) (at_Dk dC dI (va_A (wDk h0 h1 cB sec n (pw, f)) sz) h0 h1 cB sec n) (va_A (wDk h0 h1 cB sec n (pw, f)) sz)) 0 0 (va_A (wDk h0 h1 cB sec n (pw, f)) sz) := by
  refine Met.ofW (cc := b_Dk_putOne) (maxL := 3) (ret := none) (by decide) rfl ?_
  intro p e s m args below meth c s₁ B hml hv
  obtain ⟨rfl, hsz, hP, hK, hD0⟩ := hv
  have hx := B.exec
  have hb := B.bytes
  have hr := B.returns
  have hts0 := atoms_spec (ws := .code y_Dk_putOne b_Dk_putOne 3 none :: V_Dk) B.pre
  have hts : ∀ w ∈ V_Dk, w.before [.ref h0, .int p1, .int p2].toArray s = true := fun w h => hts0 w (List.mem_cons_of_mem _ h)
  have hown : s.vm.findClass R_Dk = some m.cls := findClass_of_methodNamed B.named
  have hlocks := B.notSynchronized
  subst hsz
  have hD := hD0.self (sz := s.heap.size)
  generalize hAe : va_A [(h0, .inr (0, [.int sec, .ref h1, .int pw])), (h1, .inl (cB, n, .inl f))] s.heap.size = A at hD ⊢
  have hA : ∀ q : Nat, s.heap.size ≤ q → A q := fun q h => by rw [← hAe]; exact Or.inr h
  have hS : va_S A s.heap s.heap [] := va_S.rf
  have hP : va_P (dC, dI) classes [(h0, .inr (0, [.int sec, .ref h1, .int pw])), (h1, .inl (cB, n, .inl f))] s.heap := hP
  have hl := lv_entry ([.ref h0, .int p1, .int p2]) (n := 3) (Nat.le_of_ble_eq_true rfl)
  rw [lg_entry_eq]
  generalize (lg_sl ([.ref h0, .int p1, .int p2]) ++ List.replicate (3 - (lg_sl ([.ref h0, .int p1, .int p2])).length) Slot.unset).toArray = ls at hl ⊢
  have hl : lv_has ls 3 [(0, .ref h0), (1, .int p1), (2, .int p2)] := hl
  refine lv_iload_n hx hb d_Dk_putOne_0 rfl (lv_at hl 1 rfl) ?_
  refine lv_if_lt (tgt := 21) hx hb d_Dk_putOne_1 (by decide) (fun c_1 => ?_) (fun c_1 => ?_)
  · have hP9 : va_P (dC, dI) classes (wDk h0 h1 cB sec n (pw, f)) _ := hP
    have hD9 : va_D A (wDk h0 h1 cB sec n (pw, f)) := hD
    exact W.vret hx hb hr (fun t ht hW => ⟨⟨(pw, f), rfl, by rw [dk_put1, if_pos c_1], by rw [ht]; exact hP9, va_K.moved hW.alike hK, hD9⟩, hS.F ht⟩) hS.2.2 d_Dk_putOne_21
  · refine lv_iload_n hx hb d_Dk_putOne_4 rfl (lv_at hl 1 rfl) ?_
    refine lv_aload_n hx hb d_Dk_putOne_5 rfl (lv_at hl 0 rfl) ?_
    refine va_get (D := (dC, dI)) (ci := 0) (v := .ref h1) (C := R_Dk) (T := F_Dk) (N := 3) hx hb hts i_Dk hown hK hP 0 rfl rfl 1 (by decide) (hts _ (k_Dk_6)) (fun _ h9 => h9) rfl d_Dk_putOne_6 ?_
    refine va_alen (v := nI n) hx hb hK hP 1 0 rfl rfl rfl d_Dk_putOne_9 ?_
    refine lv_icmp_ge (tgt := 21) hx hb d_Dk_putOne_10 (by decide) (fun c_2 => ?_) (fun c_2 => ?_)
    · have hP9 : va_P (dC, dI) classes (wDk h0 h1 cB sec n (pw, f)) _ := hP
      have hD9 : va_D A (wDk h0 h1 cB sec n (pw, f)) := hD
      exact W.vret hx hb hr (fun t ht hW => ⟨⟨(pw, f), rfl, by rw [dk_put1, if_neg c_1, if_pos c_2], by rw [ht]; exact hP9, va_K.moved hW.alike hK, hD9⟩, hS.F ht⟩) hS.2.2 d_Dk_putOne_21
    · refine lv_aload_n hx hb d_Dk_putOne_13 rfl (lv_at hl 0 rfl) ?_
      refine va_get (D := (dC, dI)) (ci := 0) (v := .ref h1) (C := R_Dk) (T := F_Dk) (N := 3) hx hb hts i_Dk hown hK hP 0 rfl rfl 1 (by decide) (hts _ (k_Dk_6)) (fun _ h9 => h9) rfl d_Dk_putOne_14 ?_
      refine lv_iload_n hx hb d_Dk_putOne_17 rfl (lv_at hl 1 rfl) ?_
      refine lv_iload_n hx hb d_Dk_putOne_18 rfl (lv_at hl 2 rfl) ?_
      refine lv_i2b hx hb d_Dk_putOne_19 rfl ?_
      refine va_bast hx hb hK hP hD hS 1 0 rfl rfl (in_of c_1 c_2 hn) d_Dk_putOne_20 (fun H locs hP hD hS => ?_)
      have hP : va_P (dC, dI) classes [(h0, .inr (0, [.int sec, .ref h1, .int pw])), (h1, .inl (cB, n, .inl (upd f p1.toNatClampNeg (vp_nar .byte p2.toInt8.toInt32))))] H := hP
      have hD : va_D A [(h0, .inr (0, [.int sec, .ref h1, .int pw])), (h1, .inl (cB, n, .inl (upd f p1.toNatClampNeg (vp_nar .byte p2.toInt8.toInt32))))] := hD
      have hP9 : va_P (dC, dI) classes (wDk h0 h1 cB sec n (pw, upd f p1.toNatClampNeg (vp_nar .byte p2.toInt8.toInt32))) _ := hP
      have hD9 : va_D A (wDk h0 h1 cB sec n (pw, upd f p1.toNatClampNeg (vp_nar .byte p2.toInt8.toInt32))) := hD
      exact W.vret hx hb hr (fun t ht hW => ⟨⟨(pw, upd f p1.toNatClampNeg (vp_nar .byte p2.toInt8.toInt32)), rfl, by rw [dk_put1, if_neg c_1, if_neg c_2], by rw [ht]; exact hP9, va_K.moved hW.alike hK, hD9⟩, hS.F ht⟩) hS.2.2 d_Dk_putOne_21
set_option maxHeartbeats 4000000 in
set_option maxRecDepth 100000 in
/-- putTwo -/
theorem c_Dk_putTwo (l : Launch) (dC : Nat → ClassId) (dI : Nat → Nat → Nat) (h0 h1 sz : Nat) (cB : ClassId) (sec pw : Int32) (n : Nat) (f : Nat → Int32) (h4 : 4 ≤ n) (hn : n < 2 ^ 31) (p1 p2 : Int32) : Met l y_Dk_putTwo (.code y_Dk_putTwo b_Dk_putTwo 3 none :: V_Dk) ({ frames := 0, cells := 0, slots := 0, locals := 0 }) (va_Pc [.ref h0, .int p1, .int p2] (fun U => U.heap.size = sz ∧ at_Dk dC dI (fun _ => True) h0 h1 cB sec n (pw, f) U)) (va_Qv (fun u : Int32 × (Nat → Int32) => u = (pw, dk_put2 n f p1 p2)) (at_Dk dC dI (va_A (wDk h0 h1 cB sec n (pw, f)) sz) h0 h1 cB sec n) (va_A (wDk h0 h1 cB sec n (pw, f)) sz)) 0 0 (va_A (wDk h0 h1 cB sec n (pw, f)) sz) := by
  refine Met.ofW (cc := b_Dk_putTwo) (maxL := 3) (ret := none) (by decide) rfl ?_
  intro p e s m args below meth c s₁ B hml hv
  obtain ⟨rfl, hsz, hP, hK, hD0⟩ := hv
  have hx := B.exec
  have hb := B.bytes
  have hr := B.returns
  have hts0 := atoms_spec (ws := .code y_Dk_putTwo b_Dk_putTwo 3 none :: V_Dk) B.pre
  have hts : ∀ w ∈ V_Dk, w.before [.ref h0, .int p1, .int p2].toArray s = true := fun w h => hts0 w (List.mem_cons_of_mem _ h)
  have hown : s.vm.findClass R_Dk = some m.cls := findClass_of_methodNamed B.named
  have hlocks := B.notSynchronized
  subst hsz
  have hD := hD0.self (sz := s.heap.size)
  generalize hAe : va_A [(h0, .inr (0, [.int sec, .ref h1, .int pw])), (h1, .inl (cB, n, .inl f))] s.heap.size = A at hD ⊢
  have hA : ∀ q : Nat, s.heap.size ≤ q → A q := fun q h => by rw [← hAe]; exact Or.inr h
  have hS : va_S A s.heap s.heap [] := va_S.rf
  have hP : va_P (dC, dI) classes [(h0, .inr (0, [.int sec, .ref h1, .int pw])), (h1, .inl (cB, n, .inl f))] s.heap := hP
  have hl := lv_entry ([.ref h0, .int p1, .int p2]) (n := 3) (Nat.le_of_ble_eq_true rfl)
  rw [lg_entry_eq]
  generalize (lg_sl ([.ref h0, .int p1, .int p2]) ++ List.replicate (3 - (lg_sl ([.ref h0, .int p1, .int p2])).length) Slot.unset).toArray = ls at hl ⊢
  have hl : lv_has ls 3 [(0, .ref h0), (1, .int p1), (2, .int p2)] := hl
  refine lv_iload_n hx hb d_Dk_putTwo_0 rfl (lv_at hl 1 rfl) ?_
  refine lv_if_lt (tgt := 36) hx hb d_Dk_putTwo_1 (by decide) (fun c_1 => ?_) (fun c_1 => ?_)
  · have hP9 : va_P (dC, dI) classes (wDk h0 h1 cB sec n (pw, f)) _ := hP
    have hD9 : va_D A (wDk h0 h1 cB sec n (pw, f)) := hD
    exact W.vret hx hb hr (fun t ht hW => ⟨⟨(pw, f), rfl, by rw [dk_put2, if_pos c_1], by rw [ht]; exact hP9, va_K.moved hW.alike hK, hD9⟩, hS.F ht⟩) hS.2.2 d_Dk_putTwo_36
  · refine lv_iload_n hx hb d_Dk_putTwo_4 rfl (lv_at hl 1 rfl) ?_
    refine lv_aload_n hx hb d_Dk_putTwo_5 rfl (lv_at hl 0 rfl) ?_
    refine va_get (D := (dC, dI)) (ci := 0) (v := .ref h1) (C := R_Dk) (T := F_Dk) (N := 3) hx hb hts i_Dk hown hK hP 0 rfl rfl 1 (by decide) (hts _ (k_Dk_6)) (fun _ h9 => h9) rfl d_Dk_putTwo_6 ?_
    refine va_alen (v := nI n) hx hb hK hP 1 0 rfl rfl rfl d_Dk_putTwo_9 ?_
    refine lv_iconst (v := 2) hx hb d_Dk_putTwo_10 (by decide) ?_
    refine lv_isub hx hb d_Dk_putTwo_11 ?_
    refine lv_icmp_gt (tgt := 36) hx hb d_Dk_putTwo_12 (by decide) (fun c_2 => ?_) (fun c_2 => ?_)
    · have hP9 : va_P (dC, dI) classes (wDk h0 h1 cB sec n (pw, f)) _ := hP
      have hD9 : va_D A (wDk h0 h1 cB sec n (pw, f)) := hD
      exact W.vret hx hb hr (fun t ht hW => ⟨⟨(pw, f), rfl, by rw [dk_put2, if_neg c_1, if_pos c_2], by rw [ht]; exact hP9, va_K.moved hW.alike hK, hD9⟩, hS.F ht⟩) hS.2.2 d_Dk_putTwo_36
    · refine lv_aload_n hx hb d_Dk_putTwo_15 rfl (lv_at hl 0 rfl) ?_
      refine va_get (D := (dC, dI)) (ci := 0) (v := .ref h1) (C := R_Dk) (T := F_Dk) (N := 3) hx hb hts i_Dk hown hK hP 0 rfl rfl 1 (by decide) (hts _ (k_Dk_6)) (fun _ h9 => h9) rfl d_Dk_putTwo_16 ?_
      refine lv_iload_n hx hb d_Dk_putTwo_19 rfl (lv_at hl 1 rfl) ?_
      refine lv_iload_n hx hb d_Dk_putTwo_20 rfl (lv_at hl 2 rfl) ?_
      refine lv_i2b hx hb d_Dk_putTwo_21 rfl ?_
      refine va_bast hx hb hK hP hD hS 1 0 rfl rfl (in_k0 (k := 2) c_1 (le_of_nlt c_2) (by omega) (by decide) hn) d_Dk_putTwo_22 (fun H locs hP hD hS => ?_)
      have hP : va_P (dC, dI) classes [(h0, .inr (0, [.int sec, .ref h1, .int pw])), (h1, .inl (cB, n, .inl (upd f p1.toNatClampNeg (vp_nar .byte p2.toInt8.toInt32))))] H := hP
      have hD : va_D A [(h0, .inr (0, [.int sec, .ref h1, .int pw])), (h1, .inl (cB, n, .inl (upd f p1.toNatClampNeg (vp_nar .byte p2.toInt8.toInt32))))] := hD
      refine lv_aload_n hx hb d_Dk_putTwo_23 rfl (lv_at hl 0 rfl) ?_
      refine va_get (D := (dC, dI)) (ci := 0) (v := .ref h1) (C := R_Dk) (T := F_Dk) (N := 3) hx hb hts i_Dk hown hK hP 0 rfl rfl 1 (by decide) (hts _ (k_Dk_6)) (fun _ h9 => h9) rfl d_Dk_putTwo_24 ?_
      refine lv_iload_n hx hb d_Dk_putTwo_27 rfl (lv_at hl 1 rfl) ?_
      refine lv_iconst (v := 1) hx hb d_Dk_putTwo_28 (by decide) ?_
      refine lv_iadd hx hb d_Dk_putTwo_29 ?_
      refine lv_iload_n hx hb d_Dk_putTwo_30 rfl (lv_at hl 2 rfl) ?_
      refine lv_bipush (v := 8) hx hb d_Dk_putTwo_31 (by decide) ?_
      refine lv_ishr hx hb d_Dk_putTwo_33 ?_
      refine lv_i2b hx hb d_Dk_putTwo_34 rfl ?_
      refine va_bast hx hb hK hP hD hS 1 0 rfl rfl (in_kj (k := 2) (i := 1) c_1 (le_of_nlt c_2) (by omega) (by decide) hn) d_Dk_putTwo_35 (fun H locs hP hD hS => ?_)
      have hP : va_P (dC, dI) classes [(h0, .inr (0, [.int sec, .ref h1, .int pw])), (h1, .inl (cB, n, .inl (upd (upd f p1.toNatClampNeg (vp_nar .byte p2.toInt8.toInt32)) (p1 + 1).toNatClampNeg (vp_nar .byte ((p2 >>> ((8 : Int32) &&& 31)).toInt8.toInt32)))))] H := hP
      have hD : va_D A [(h0, .inr (0, [.int sec, .ref h1, .int pw])), (h1, .inl (cB, n, .inl (upd (upd f p1.toNatClampNeg (vp_nar .byte p2.toInt8.toInt32)) (p1 + 1).toNatClampNeg (vp_nar .byte ((p2 >>> ((8 : Int32) &&& 31)).toInt8.toInt32)))))] := hD
      have hP9 : va_P (dC, dI) classes (wDk h0 h1 cB sec n (pw, upd (upd f p1.toNatClampNeg (vp_nar .byte p2.toInt8.toInt32)) (p1 + 1).toNatClampNeg (vp_nar .byte ((p2 >>> ((8 : Int32) &&& 31)).toInt8.toInt32)))) _ := hP
      have hD9 : va_D A (wDk h0 h1 cB sec n (pw, upd (upd f p1.toNatClampNeg (vp_nar .byte p2.toInt8.toInt32)) (p1 + 1).toNatClampNeg (vp_nar .byte ((p2 >>> ((8 : Int32) &&& 31)).toInt8.toInt32)))) := hD
      exact W.vret hx hb hr (fun t ht hW => ⟨⟨(pw, upd (upd f p1.toNatClampNeg (vp_nar .byte p2.toInt8.toInt32)) (p1 + 1).toNatClampNeg (vp_nar .byte ((p2 >>> ((8 : Int32) &&& 31)).toInt8.toInt32))), rfl, by rw [dk_put2, if_neg c_1, if_neg c_2], by rw [ht]; exact hP9, va_K.moved hW.alike hK, hD9⟩, hS.F ht⟩) hS.2.2 d_Dk_putTwo_36
set_option maxHeartbeats 4000000 in
set_option maxRecDepth 100000 in
/-- putFour -/
theorem c_Dk_putFour (l : Launch) (dC : Nat → ClassId) (dI : Nat → Nat → Nat) (h0 h1 sz : Nat) (cB : ClassId) (sec pw : Int32) (n : Nat) (f : Nat → Int32) (h4 : 4 ≤ n) (hn : n < 2 ^ 31) (p1 p2 : Int32) : Met l y_Dk_putFour (.code y_Dk_putFour b_Dk_putFour 3 none :: V_Dk) ({ frames := 0, cells := 0, slots := 0, locals := 0 }) (va_Pc [.ref h0, .int p1, .int p2] (fun U => U.heap.size = sz ∧ at_Dk dC dI (fun _ => True) h0 h1 cB sec n (pw, f) U)) (va_Qv (fun u : Int32 × (Nat → Int32) => u = (pw, dk_put4 n f p1 p2)) (at_Dk dC dI (va_A (wDk h0 h1 cB sec n (pw, f)) sz) h0 h1 cB sec n) (va_A (wDk h0 h1 cB sec n (pw, f)) sz)) 0 0 (va_A (wDk h0 h1 cB sec n (pw, f)) sz) := by
  refine Met.ofW (cc := b_Dk_putFour) (maxL := 3) (ret := none) (by decide) rfl ?_
  intro p e s m args below meth c s₁ B hml hv
  obtain ⟨rfl, hsz, hP, hK, hD0⟩ := hv
  have hx := B.exec
  have hb := B.bytes
  have hr := B.returns
  have hts0 := atoms_spec (ws := .code y_Dk_putFour b_Dk_putFour 3 none :: V_Dk) B.pre
  have hts : ∀ w ∈ V_Dk, w.before [.ref h0, .int p1, .int p2].toArray s = true := fun w h => hts0 w (List.mem_cons_of_mem _ h)
  have hown : s.vm.findClass R_Dk = some m.cls := findClass_of_methodNamed B.named
  have hlocks := B.notSynchronized
  subst hsz
  have hD := hD0.self (sz := s.heap.size)
  generalize hAe : va_A [(h0, .inr (0, [.int sec, .ref h1, .int pw])), (h1, .inl (cB, n, .inl f))] s.heap.size = A at hD ⊢
  have hA : ∀ q : Nat, s.heap.size ≤ q → A q := fun q h => by rw [← hAe]; exact Or.inr h
  have hS : va_S A s.heap s.heap [] := va_S.rf
  have hP : va_P (dC, dI) classes [(h0, .inr (0, [.int sec, .ref h1, .int pw])), (h1, .inl (cB, n, .inl f))] s.heap := hP
  have hl := lv_entry ([.ref h0, .int p1, .int p2]) (n := 3) (Nat.le_of_ble_eq_true rfl)
  rw [lg_entry_eq]
  generalize (lg_sl ([.ref h0, .int p1, .int p2]) ++ List.replicate (3 - (lg_sl ([.ref h0, .int p1, .int p2])).length) Slot.unset).toArray = ls at hl ⊢
  have hl : lv_has ls 3 [(0, .ref h0), (1, .int p1), (2, .int p2)] := hl
  refine lv_iload_n hx hb d_Dk_putFour_0 rfl (lv_at hl 1 rfl) ?_
  refine lv_if_lt (tgt := 62) hx hb d_Dk_putFour_1 (by decide) (fun c_1 => ?_) (fun c_1 => ?_)
  · have hP9 : va_P (dC, dI) classes (wDk h0 h1 cB sec n (pw, f)) _ := hP
    have hD9 : va_D A (wDk h0 h1 cB sec n (pw, f)) := hD
    exact W.vret hx hb hr (fun t ht hW => ⟨⟨(pw, f), rfl, by rw [dk_put4, if_pos c_1], by rw [ht]; exact hP9, va_K.moved hW.alike hK, hD9⟩, hS.F ht⟩) hS.2.2 d_Dk_putFour_62
  · refine lv_iload_n hx hb d_Dk_putFour_4 rfl (lv_at hl 1 rfl) ?_
    refine lv_aload_n hx hb d_Dk_putFour_5 rfl (lv_at hl 0 rfl) ?_
    refine va_get (D := (dC, dI)) (ci := 0) (v := .ref h1) (C := R_Dk) (T := F_Dk) (N := 3) hx hb hts i_Dk hown hK hP 0 rfl rfl 1 (by decide) (hts _ (k_Dk_6)) (fun _ h9 => h9) rfl d_Dk_putFour_6 ?_
    refine va_alen (v := nI n) hx hb hK hP 1 0 rfl rfl rfl d_Dk_putFour_9 ?_
    refine lv_iconst (v := 4) hx hb d_Dk_putFour_10 (by decide) ?_
    refine lv_isub hx hb d_Dk_putFour_11 ?_
    refine lv_icmp_gt (tgt := 62) hx hb d_Dk_putFour_12 (by decide) (fun c_2 => ?_) (fun c_2 => ?_)
    · have hP9 : va_P (dC, dI) classes (wDk h0 h1 cB sec n (pw, f)) _ := hP
      have hD9 : va_D A (wDk h0 h1 cB sec n (pw, f)) := hD
      exact W.vret hx hb hr (fun t ht hW => ⟨⟨(pw, f), rfl, by rw [dk_put4, if_neg c_1, if_pos c_2], by rw [ht]; exact hP9, va_K.moved hW.alike hK, hD9⟩, hS.F ht⟩) hS.2.2 d_Dk_putFour_62
    · refine lv_aload_n hx hb d_Dk_putFour_15 rfl (lv_at hl 0 rfl) ?_
      refine va_get (D := (dC, dI)) (ci := 0) (v := .ref h1) (C := R_Dk) (T := F_Dk) (N := 3) hx hb hts i_Dk hown hK hP 0 rfl rfl 1 (by decide) (hts _ (k_Dk_6)) (fun _ h9 => h9) rfl d_Dk_putFour_16 ?_
      refine lv_iload_n hx hb d_Dk_putFour_19 rfl (lv_at hl 1 rfl) ?_
      refine lv_iload_n hx hb d_Dk_putFour_20 rfl (lv_at hl 2 rfl) ?_
      refine lv_i2b hx hb d_Dk_putFour_21 rfl ?_
      refine va_bast hx hb hK hP hD hS 1 0 rfl rfl (in_k0 (k := 4) c_1 (le_of_nlt c_2) (by omega) (by decide) hn) d_Dk_putFour_22 (fun H locs hP hD hS => ?_)
      have hP : va_P (dC, dI) classes [(h0, .inr (0, [.int sec, .ref h1, .int pw])), (h1, .inl (cB, n, .inl (upd f p1.toNatClampNeg (vp_nar .byte p2.toInt8.toInt32))))] H := hP
      have hD : va_D A [(h0, .inr (0, [.int sec, .ref h1, .int pw])), (h1, .inl (cB, n, .inl (upd f p1.toNatClampNeg (vp_nar .byte p2.toInt8.toInt32))))] := hD
      refine lv_aload_n hx hb d_Dk_putFour_23 rfl (lv_at hl 0 rfl) ?_
      refine va_get (D := (dC, dI)) (ci := 0) (v := .ref h1) (C := R_Dk) (T := F_Dk) (N := 3) hx hb hts i_Dk hown hK hP 0 rfl rfl 1 (by decide) (hts _ (k_Dk_6)) (fun _ h9 => h9) rfl d_Dk_putFour_24 ?_
      refine lv_iload_n hx hb d_Dk_putFour_27 rfl (lv_at hl 1 rfl) ?_
      refine lv_iconst (v := 1) hx hb d_Dk_putFour_28 (by decide) ?_
      refine lv_iadd hx hb d_Dk_putFour_29 ?_
      refine lv_iload_n hx hb d_Dk_putFour_30 rfl (lv_at hl 2 rfl) ?_
      refine lv_bipush (v := 8) hx hb d_Dk_putFour_31 (by decide) ?_
      refine lv_ishr hx hb d_Dk_putFour_33 ?_
      refine lv_i2b hx hb d_Dk_putFour_34 rfl ?_
      refine va_bast hx hb hK hP hD hS 1 0 rfl rfl (in_kj (k := 4) (i := 1) c_1 (le_of_nlt c_2) (by omega) (by decide) hn) d_Dk_putFour_35 (fun H locs hP hD hS => ?_)
      have hP : va_P (dC, dI) classes [(h0, .inr (0, [.int sec, .ref h1, .int pw])), (h1, .inl (cB, n, .inl (upd (upd f p1.toNatClampNeg (vp_nar .byte p2.toInt8.toInt32)) (p1 + 1).toNatClampNeg (vp_nar .byte ((p2 >>> ((8 : Int32) &&& 31)).toInt8.toInt32)))))] H := hP
      have hD : va_D A [(h0, .inr (0, [.int sec, .ref h1, .int pw])), (h1, .inl (cB, n, .inl (upd (upd f p1.toNatClampNeg (vp_nar .byte p2.toInt8.toInt32)) (p1 + 1).toNatClampNeg (vp_nar .byte ((p2 >>> ((8 : Int32) &&& 31)).toInt8.toInt32)))))] := hD
      refine lv_aload_n hx hb d_Dk_putFour_36 rfl (lv_at hl 0 rfl) ?_
      refine va_get (D := (dC, dI)) (ci := 0) (v := .ref h1) (C := R_Dk) (T := F_Dk) (N := 3) hx hb hts i_Dk hown hK hP 0 rfl rfl 1 (by decide) (hts _ (k_Dk_6)) (fun _ h9 => h9) rfl d_Dk_putFour_37 ?_
      refine lv_iload_n hx hb d_Dk_putFour_40 rfl (lv_at hl 1 rfl) ?_
      refine lv_iconst (v := 2) hx hb d_Dk_putFour_41 (by decide) ?_
      refine lv_iadd hx hb d_Dk_putFour_42 ?_
      refine lv_iload_n hx hb d_Dk_putFour_43 rfl (lv_at hl 2 rfl) ?_
      refine lv_bipush (v := 16) hx hb d_Dk_putFour_44 (by decide) ?_
      refine lv_ishr hx hb d_Dk_putFour_46 ?_
      refine lv_i2b hx hb d_Dk_putFour_47 rfl ?_
      refine va_bast hx hb hK hP hD hS 1 0 rfl rfl (in_kj (k := 4) (i := 2) c_1 (le_of_nlt c_2) (by omega) (by decide) hn) d_Dk_putFour_48 (fun H locs hP hD hS => ?_)
      have hP : va_P (dC, dI) classes [(h0, .inr (0, [.int sec, .ref h1, .int pw])), (h1, .inl (cB, n, .inl (upd (upd (upd f p1.toNatClampNeg (vp_nar .byte p2.toInt8.toInt32)) (p1 + 1).toNatClampNeg (vp_nar .byte ((p2 >>> ((8 : Int32) &&& 31)).toInt8.toInt32))) (p1 + 2).toNatClampNeg (vp_nar .byte ((p2 >>> ((16 : Int32) &&& 31)).toInt8.toInt32)))))] H := hP
      have hD : va_D A [(h0, .inr (0, [.int sec, .ref h1, .int pw])), (h1, .inl (cB, n, .inl (upd (upd (upd f p1.toNatClampNeg (vp_nar .byte p2.toInt8.toInt32)) (p1 + 1).toNatClampNeg (vp_nar .byte ((p2 >>> ((8 : Int32) &&& 31)).toInt8.toInt32))) (p1 + 2).toNatClampNeg (vp_nar .byte ((p2 >>> ((16 : Int32) &&& 31)).toInt8.toInt32)))))] := hD
      refine lv_aload_n hx hb d_Dk_putFour_49 rfl (lv_at hl 0 rfl) ?_
      refine va_get (D := (dC, dI)) (ci := 0) (v := .ref h1) (C := R_Dk) (T := F_Dk) (N := 3) hx hb hts i_Dk hown hK hP 0 rfl rfl 1 (by decide) (hts _ (k_Dk_6)) (fun _ h9 => h9) rfl d_Dk_putFour_50 ?_
      refine lv_iload_n hx hb d_Dk_putFour_53 rfl (lv_at hl 1 rfl) ?_
      refine lv_iconst (v := 3) hx hb d_Dk_putFour_54 (by decide) ?_
      refine lv_iadd hx hb d_Dk_putFour_55 ?_
      refine lv_iload_n hx hb d_Dk_putFour_56 rfl (lv_at hl 2 rfl) ?_
      refine lv_bipush (v := 24) hx hb d_Dk_putFour_57 (by decide) ?_
      refine lv_ishr hx hb d_Dk_putFour_59 ?_
      refine lv_i2b hx hb d_Dk_putFour_60 rfl ?_
      refine va_bast hx hb hK hP hD hS 1 0 rfl rfl (in_kj (k := 4) (i := 3) c_1 (le_of_nlt c_2) (by omega) (by decide) hn) d_Dk_putFour_61 (fun H locs hP hD hS => ?_)
      have hP : va_P (dC, dI) classes [(h0, .inr (0, [.int sec, .ref h1, .int pw])), (h1, .inl (cB, n, .inl (upd (upd (upd (upd f p1.toNatClampNeg (vp_nar .byte p2.toInt8.toInt32)) (p1 + 1).toNatClampNeg (vp_nar .byte ((p2 >>> ((8 : Int32) &&& 31)).toInt8.toInt32))) (p1 + 2).toNatClampNeg (vp_nar .byte ((p2 >>> ((16 : Int32) &&& 31)).toInt8.toInt32))) (p1 + 3).toNatClampNeg (vp_nar .byte ((p2 >>> ((24 : Int32) &&& 31)).toInt8.toInt32)))))] H := hP
      have hD : va_D A [(h0, .inr (0, [.int sec, .ref h1, .int pw])), (h1, .inl (cB, n, .inl (upd (upd (upd (upd f p1.toNatClampNeg (vp_nar .byte p2.toInt8.toInt32)) (p1 + 1).toNatClampNeg (vp_nar .byte ((p2 >>> ((8 : Int32) &&& 31)).toInt8.toInt32))) (p1 + 2).toNatClampNeg (vp_nar .byte ((p2 >>> ((16 : Int32) &&& 31)).toInt8.toInt32))) (p1 + 3).toNatClampNeg (vp_nar .byte ((p2 >>> ((24 : Int32) &&& 31)).toInt8.toInt32)))))] := hD
      have hP9 : va_P (dC, dI) classes (wDk h0 h1 cB sec n (pw, upd (upd (upd (upd f p1.toNatClampNeg (vp_nar .byte p2.toInt8.toInt32)) (p1 + 1).toNatClampNeg (vp_nar .byte ((p2 >>> ((8 : Int32) &&& 31)).toInt8.toInt32))) (p1 + 2).toNatClampNeg (vp_nar .byte ((p2 >>> ((16 : Int32) &&& 31)).toInt8.toInt32))) (p1 + 3).toNatClampNeg (vp_nar .byte ((p2 >>> ((24 : Int32) &&& 31)).toInt8.toInt32)))) _ := hP
      have hD9 : va_D A (wDk h0 h1 cB sec n (pw, upd (upd (upd (upd f p1.toNatClampNeg (vp_nar .byte p2.toInt8.toInt32)) (p1 + 1).toNatClampNeg (vp_nar .byte ((p2 >>> ((8 : Int32) &&& 31)).toInt8.toInt32))) (p1 + 2).toNatClampNeg (vp_nar .byte ((p2 >>> ((16 : Int32) &&& 31)).toInt8.toInt32))) (p1 + 3).toNatClampNeg (vp_nar .byte ((p2 >>> ((24 : Int32) &&& 31)).toInt8.toInt32)))) := hD
      exact W.vret hx hb hr (fun t ht hW => ⟨⟨(pw, upd (upd (upd (upd f p1.toNatClampNeg (vp_nar .byte p2.toInt8.toInt32)) (p1 + 1).toNatClampNeg (vp_nar .byte ((p2 >>> ((8 : Int32) &&& 31)).toInt8.toInt32))) (p1 + 2).toNatClampNeg (vp_nar .byte ((p2 >>> ((16 : Int32) &&& 31)).toInt8.toInt32))) (p1 + 3).toNatClampNeg (vp_nar .byte ((p2 >>> ((24 : Int32) &&& 31)).toInt8.toInt32))), rfl, by rw [dk_put4, if_neg c_1, if_neg c_2], by rw [ht]; exact hP9, va_K.moved hW.alike hK, hD9⟩, hS.F ht⟩) hS.2.2 d_Dk_putFour_62
set_option maxHeartbeats 4000000 in
set_option maxRecDepth 100000 in
/-- supply -/
theorem c_Dk_supply (l : Launch) (dC : Nat → ClassId) (dI : Nat → Nat → Nat) (h0 h1 sz : Nat) (cB : ClassId) (sec pw : Int32) (n : Nat) (f : Nat → Int32) (h4 : 4 ≤ n) (hn : n < 2 ^ 31) (p1 : Int32) : Met l y_Dk_supply (.code y_Dk_supply b_Dk_supply 2 none :: V_Dk) ({ frames := 0, cells := 0, slots := 0, locals := 0 }) (va_Pc [.ref h0, .int p1] (fun U => U.heap.size = sz ∧ at_Dk dC dI (fun _ => True) h0 h1 cB sec n (pw, f) U)) (va_Qv (fun u : Int32 × (Nat → Int32) => u = (p1, f)) (at_Dk dC dI (va_A (wDk h0 h1 cB sec n (pw, f)) sz) h0 h1 cB sec n) (va_A (wDk h0 h1 cB sec n (pw, f)) sz)) 0 0 (va_A (wDk h0 h1 cB sec n (pw, f)) sz) := by
  refine Met.ofW (cc := b_Dk_supply) (maxL := 2) (ret := none) (by decide) rfl ?_
  intro p e s m args below meth c s₁ B hml hv
  obtain ⟨rfl, hsz, hP, hK, hD0⟩ := hv
  have hx := B.exec
  have hb := B.bytes
  have hr := B.returns
  have hts0 := atoms_spec (ws := .code y_Dk_supply b_Dk_supply 2 none :: V_Dk) B.pre
  have hts : ∀ w ∈ V_Dk, w.before [.ref h0, .int p1].toArray s = true := fun w h => hts0 w (List.mem_cons_of_mem _ h)
  have hown : s.vm.findClass R_Dk = some m.cls := findClass_of_methodNamed B.named
  have hlocks := B.notSynchronized
  subst hsz
  have hD := hD0.self (sz := s.heap.size)
  generalize hAe : va_A [(h0, .inr (0, [.int sec, .ref h1, .int pw])), (h1, .inl (cB, n, .inl f))] s.heap.size = A at hD ⊢
  have hA : ∀ q : Nat, s.heap.size ≤ q → A q := fun q h => by rw [← hAe]; exact Or.inr h
  have hS : va_S A s.heap s.heap [] := va_S.rf
  have hP : va_P (dC, dI) classes [(h0, .inr (0, [.int sec, .ref h1, .int pw])), (h1, .inl (cB, n, .inl f))] s.heap := hP
  have hl := lv_entry ([.ref h0, .int p1]) (n := 2) (Nat.le_of_ble_eq_true rfl)
  rw [lg_entry_eq]
  generalize (lg_sl ([.ref h0, .int p1]) ++ List.replicate (2 - (lg_sl ([.ref h0, .int p1])).length) Slot.unset).toArray = ls at hl ⊢
  have hl : lv_has ls 2 [(0, .ref h0), (1, .int p1)] := hl
  refine lv_aload_n hx hb d_Dk_supply_0 rfl (lv_at hl 0 rfl) ?_
  refine lv_iload_n hx hb d_Dk_supply_1 rfl (lv_at hl 1 rfl) ?_
  refine va_put (D := (dC, dI)) (ci := 0) (v := .int p1) (ty := .int) (C := R_Dk) (T := F_Dk) (N := 3) hx hb hts i_Dk t_Dk t_Dk_ok n_Dk hown hK hP hD hS 0 rfl rfl 2 (by decide) (hts _ (k_Dk_7)) (fun _ h9 => h9) rfl (by decide +kernel) rfl rfl (Nat.le_of_ble_eq_true rfl) d_Dk_supply_2 (fun H locs hP hD hS => ?_)
  have hP : va_P (dC, dI) classes [(h0, .inr (0, [.int sec, .ref h1, .int p1])), (h1, .inl (cB, n, .inl f))] H := hP
  have hD : va_D A [(h0, .inr (0, [.int sec, .ref h1, .int p1])), (h1, .inl (cB, n, .inl f))] := hD
  have hP9 : va_P (dC, dI) classes (wDk h0 h1 cB sec n (p1, f)) _ := hP
  have hD9 : va_D A (wDk h0 h1 cB sec n (p1, f)) := hD
  exact W.vret hx hb hr (fun t ht hW => ⟨⟨(p1, f), rfl, rfl, by rw [ht]; exact hP9, va_K.moved hW.alike hK, hD9⟩, hS.F ht⟩) hS.2.2 d_Dk_supply_5
set_option maxHeartbeats 4000000 in
set_option maxRecDepth 100000 in
/-- isOn -/
theorem c_Dk_isOn (l : Launch) (dC : Nat → ClassId) (dI : Nat → Nat → Nat) (h0 h1 sz : Nat) (cB : ClassId) (sec pw : Int32) (n : Nat) (f : Nat → Int32) (h4 : 4 ≤ n) (hn : n < 2 ^ 31) : Met l y_Dk_isOn (.code y_Dk_isOn b_Dk_isOn 1 (some .boolean) :: V_Dk) ({ frames := 0, cells := 0, slots := 0, locals := 0 }) (va_Pc [.ref h0] (fun U => U.heap.size = sz ∧ at_Dk dC dI (fun _ => True) h0 h1 cB sec n (pw, f) U)) (va_Qi (fun (r : Int32) (u : Int32 × (Nat → Int32)) => r = dk_on pw ∧ u = (pw, f)) (at_Dk dC dI (va_A (wDk h0 h1 cB sec n (pw, f)) sz) h0 h1 cB sec n) (va_A (wDk h0 h1 cB sec n (pw, f)) sz)) 0 0 (va_A (wDk h0 h1 cB sec n (pw, f)) sz) := by
  refine Met.ofW (cc := b_Dk_isOn) (maxL := 1) (ret := (some .boolean)) (by decide) rfl ?_
  intro p e s m args below meth c s₁ B hml hv
  obtain ⟨rfl, hsz, hP, hK, hD0⟩ := hv
  have hx := B.exec
  have hb := B.bytes
  have hr := B.returns
  have hts0 := atoms_spec (ws := .code y_Dk_isOn b_Dk_isOn 1 (some .boolean) :: V_Dk) B.pre
  have hts : ∀ w ∈ V_Dk, w.before [.ref h0].toArray s = true := fun w h => hts0 w (List.mem_cons_of_mem _ h)
  have hown : s.vm.findClass R_Dk = some m.cls := findClass_of_methodNamed B.named
  have hlocks := B.notSynchronized
  subst hsz
  have hD := hD0.self (sz := s.heap.size)
  generalize hAe : va_A [(h0, .inr (0, [.int sec, .ref h1, .int pw])), (h1, .inl (cB, n, .inl f))] s.heap.size = A at hD ⊢
  have hA : ∀ q : Nat, s.heap.size ≤ q → A q := fun q h => by rw [← hAe]; exact Or.inr h
  have hS : va_S A s.heap s.heap [] := va_S.rf
  have hP : va_P (dC, dI) classes [(h0, .inr (0, [.int sec, .ref h1, .int pw])), (h1, .inl (cB, n, .inl f))] s.heap := hP
  have hl := lv_entry ([.ref h0]) (n := 1) (Nat.le_of_ble_eq_true rfl)
  rw [lg_entry_eq]
  generalize (lg_sl ([.ref h0]) ++ List.replicate (1 - (lg_sl ([.ref h0])).length) Slot.unset).toArray = ls at hl ⊢
  have hl : lv_has ls 1 [(0, .ref h0)] := hl
  refine lv_aload_n hx hb d_Dk_isOn_0 rfl (lv_at hl 0 rfl) ?_
  refine va_get (D := (dC, dI)) (ci := 0) (v := .int pw) (C := R_Dk) (T := F_Dk) (N := 3) hx hb hts i_Dk hown hK hP 0 rfl rfl 2 (by decide) (hts _ (k_Dk_7)) (fun _ h9 => h9) rfl d_Dk_isOn_1 ?_
  refine lv_if_eq (tgt := 11) hx hb d_Dk_isOn_4 (by decide) (fun c_1 => ?_) (fun c_1 => ?_)
  · refine lv_iconst (v := 0) hx hb d_Dk_isOn_11 (by decide) ?_
    have hP9 : va_P (dC, dI) classes (wDk h0 h1 cB sec n (pw, f)) _ := hP
    have hD9 : va_D A (wDk h0 h1 cB sec n (pw, f)) := hD
    exact W.zret (v := 0) hx hb hr rfl (fun t ht hW => ⟨⟨0, (pw, f), rfl, ⟨by rw [dk_on, if_pos c_1], rfl⟩, by rw [ht]; exact hP9, va_K.moved hW.alike hK, hD9⟩, hS.F ht⟩) hS.2.2 d_Dk_isOn_12
  · refine lv_iconst (v := 1) hx hb d_Dk_isOn_7 (by decide) ?_
    refine lv_goto (tgt := 12) hx hb d_Dk_isOn_8 (by decide) ?_
    have hP9 : va_P (dC, dI) classes (wDk h0 h1 cB sec n (pw, f)) _ := hP
    have hD9 : va_D A (wDk h0 h1 cB sec n (pw, f)) := hD
    exact W.zret (v := 1) hx hb hr rfl (fun t ht hW => ⟨⟨1, (pw, f), rfl, ⟨by rw [dk_on, if_neg c_1], rfl⟩, by rw [ht]; exact hP9, va_K.moved hW.alike hK, hD9⟩, hS.F ht⟩) hS.2.2 d_Dk_isOn_12
