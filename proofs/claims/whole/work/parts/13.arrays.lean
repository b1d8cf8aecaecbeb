def R_Ar : String := "java/util/Arrays"
abbrev b_Ar_fillB : ByteArray := prog_33_method_109_code
def y_Ar_fillB : MethodName := ⟨R_Ar, "fill", "([BB)V"⟩
theorem d_Ar_fillB_0 : decode b_Ar_fillB 0 = .ok (.iconst 0, 1) := by decide +kernel
theorem d_Ar_fillB_1 : decode b_Ar_fillB 1 = .ok (.istore_n 2, 1) := by decide +kernel
theorem d_Ar_fillB_2 : decode b_Ar_fillB 2 = .ok (.aload_n 0, 1) := by decide +kernel
theorem d_Ar_fillB_3 : decode b_Ar_fillB 3 = .ok (.arraylength, 1) := by decide +kernel
theorem d_Ar_fillB_4 : decode b_Ar_fillB 4 = .ok (.istore_n 3, 1) := by decide +kernel
theorem d_Ar_fillB_5 : decode b_Ar_fillB 5 = .ok (.iload_n 2, 1) := by decide +kernel
theorem d_Ar_fillB_6 : decode b_Ar_fillB 6 = .ok (.iload_n 3, 1) := by decide +kernel
theorem d_Ar_fillB_7 : decode b_Ar_fillB 7 = .ok (.if_icmp .ge 13, 3) := by decide +kernel
theorem d_Ar_fillB_10 : decode b_Ar_fillB 10 = .ok (.aload_n 0, 1) := by decide +kernel
theorem d_Ar_fillB_11 : decode b_Ar_fillB 11 = .ok (.iload_n 2, 1) := by decide +kernel
theorem d_Ar_fillB_12 : decode b_Ar_fillB 12 = .ok (.iload_n 1, 1) := by decide +kernel
theorem d_Ar_fillB_13 : decode b_Ar_fillB 13 = .ok (.bastore, 1) := by decide +kernel
theorem d_Ar_fillB_14 : decode b_Ar_fillB 14 = .ok (.iinc 2 1, 3) := by decide +kernel
theorem d_Ar_fillB_17 : decode b_Ar_fillB 17 = .ok (.goto (-12), 3) := by decide +kernel
theorem d_Ar_fillB_20 : decode b_Ar_fillB 20 = .ok (.return_, 1) := by decide +kernel
abbrev b_Ar_fillBR : ByteArray := prog_33_method_110_code
def y_Ar_fillBR : MethodName := ⟨R_Ar, "fill", "([BIIB)V"⟩
theorem d_Ar_fillBR_0 : decode b_Ar_fillBR 0 = .ok (.aload_n 0, 1) := by decide +kernel
theorem d_Ar_fillBR_1 : decode b_Ar_fillBR 1 = .ok (.arraylength, 1) := by decide +kernel
theorem d_Ar_fillBR_2 : decode b_Ar_fillBR 2 = .ok (.iload_n 1, 1) := by decide +kernel
theorem d_Ar_fillBR_3 : decode b_Ar_fillBR 3 = .ok (.iload_n 2, 1) := by decide +kernel
theorem d_Ar_fillBR_4 : decode b_Ar_fillBR 4 = .ok (.invokestatic 13, 3) := by decide +kernel
theorem d_Ar_fillBR_7 : decode b_Ar_fillBR 7 = .ok (.iload_n 1, 1) := by decide +kernel
theorem d_Ar_fillBR_8 : decode b_Ar_fillBR 8 = .ok (.istore 4, 2) := by decide +kernel
theorem d_Ar_fillBR_10 : decode b_Ar_fillBR 10 = .ok (.iload 4, 2) := by decide +kernel
theorem d_Ar_fillBR_12 : decode b_Ar_fillBR 12 = .ok (.iload_n 2, 1) := by decide +kernel
theorem d_Ar_fillBR_13 : decode b_Ar_fillBR 13 = .ok (.if_icmp .ge 14, 3) := by decide +kernel
theorem d_Ar_fillBR_16 : decode b_Ar_fillBR 16 = .ok (.aload_n 0, 1) := by decide +kernel
theorem d_Ar_fillBR_17 : decode b_Ar_fillBR 17 = .ok (.iload 4, 2) := by decide +kernel
theorem d_Ar_fillBR_19 : decode b_Ar_fillBR 19 = .ok (.iload_n 3, 1) := by decide +kernel
theorem d_Ar_fillBR_20 : decode b_Ar_fillBR 20 = .ok (.bastore, 1) := by decide +kernel
theorem d_Ar_fillBR_21 : decode b_Ar_fillBR 21 = .ok (.iinc 4 1, 3) := by decide +kernel
theorem d_Ar_fillBR_24 : decode b_Ar_fillBR 24 = .ok (.goto (-14), 3) := by decide +kernel
theorem d_Ar_fillBR_27 : decode b_Ar_fillBR 27 = .ok (.return_, 1) := by decide +kernel
abbrev b_Ar_fillI : ByteArray := prog_33_method_103_code
def y_Ar_fillI : MethodName := ⟨R_Ar, "fill", "([II)V"⟩
theorem d_Ar_fillI_0 : decode b_Ar_fillI 0 = .ok (.iconst 0, 1) := by decide +kernel
theorem d_Ar_fillI_1 : decode b_Ar_fillI 1 = .ok (.istore_n 2, 1) := by decide +kernel
theorem d_Ar_fillI_2 : decode b_Ar_fillI 2 = .ok (.aload_n 0, 1) := by decide +kernel
theorem d_Ar_fillI_3 : decode b_Ar_fillI 3 = .ok (.arraylength, 1) := by decide +kernel
theorem d_Ar_fillI_4 : decode b_Ar_fillI 4 = .ok (.istore_n 3, 1) := by decide +kernel
theorem d_Ar_fillI_5 : decode b_Ar_fillI 5 = .ok (.iload_n 2, 1) := by decide +kernel
theorem d_Ar_fillI_6 : decode b_Ar_fillI 6 = .ok (.iload_n 3, 1) := by decide +kernel
theorem d_Ar_fillI_7 : decode b_Ar_fillI 7 = .ok (.if_icmp .ge 13, 3) := by decide +kernel
theorem d_Ar_fillI_10 : decode b_Ar_fillI 10 = .ok (.aload_n 0, 1) := by decide +kernel
theorem d_Ar_fillI_11 : decode b_Ar_fillI 11 = .ok (.iload_n 2, 1) := by decide +kernel
theorem d_Ar_fillI_12 : decode b_Ar_fillI 12 = .ok (.iload_n 1, 1) := by decide +kernel
theorem d_Ar_fillI_13 : decode b_Ar_fillI 13 = .ok (.iastore, 1) := by decide +kernel
theorem d_Ar_fillI_14 : decode b_Ar_fillI 14 = .ok (.iinc 2 1, 3) := by decide +kernel
theorem d_Ar_fillI_17 : decode b_Ar_fillI 17 = .ok (.goto (-12), 3) := by decide +kernel
theorem d_Ar_fillI_20 : decode b_Ar_fillI 20 = .ok (.return_, 1) := by decide +kernel
abbrev b_Ar_rangeCheck : ByteArray := prog_33_method_30_code
def y_Ar_rangeCheck : MethodName := ⟨R_Ar, "rangeCheck", "(III)V"⟩
theorem d_Ar_rangeCheck_0 : decode b_Ar_rangeCheck 0 = .ok (.iload_n 1, 1) := by decide +kernel
theorem d_Ar_rangeCheck_1 : decode b_Ar_rangeCheck 1 = .ok (.iload_n 2, 1) := by decide +kernel
theorem d_Ar_rangeCheck_2 : decode b_Ar_rangeCheck 2 = .ok (.if_icmp .le 44, 3) := by decide +kernel
theorem d_Ar_rangeCheck_46 : decode b_Ar_rangeCheck 46 = .ok (.iload_n 1, 1) := by decide +kernel
theorem d_Ar_rangeCheck_47 : decode b_Ar_rangeCheck 47 = .ok (.ifCond .ge 12, 3) := by decide +kernel
theorem d_Ar_rangeCheck_59 : decode b_Ar_rangeCheck 59 = .ok (.iload_n 2, 1) := by decide +kernel
theorem d_Ar_rangeCheck_60 : decode b_Ar_rangeCheck 60 = .ok (.iload_n 0, 1) := by decide +kernel
theorem d_Ar_rangeCheck_61 : decode b_Ar_rangeCheck 61 = .ok (.if_icmp .le 12, 3) := by decide +kernel
theorem d_Ar_rangeCheck_73 : decode b_Ar_rangeCheck 73 = .ok (.return_, 1) := by decide +kernel
set_option maxHeartbeats 4000000 in
set_option maxRecDepth 100000 in
/-- Arrays.fill(byte[], byte) -/
theorem c_Ar_fillB (l : Launch) (dC : Nat → ClassId) (dI : Nat → Nat → Nat) (h1 sz : Nat) (cB : ClassId) (n : Nat) (f : Nat → Int32) (hn : n < 2 ^ 31) (p1 : Int32) : Met l y_Ar_fillB (.code y_Ar_fillB b_Ar_fillB 4 none :: V_J) ({ frames := 0, cells := 0, slots := 0, locals := 0 }) (va_Pc [.ref h1, .int p1] (fun U => U.heap.size = sz ∧ at_ (dC, dI) (fun _ => True) [(h1, .inl (cB, n, .inl f))] [(cB, .byte)] U)) (va_Qv (fun u : Nat → Int32 => u = ar_fill f 0 n (vp_nar .byte p1)) (fun (u : Nat → Int32) t => at_ (dC, dI) (va_A [(h1, .inl (cB, n, .inl f))] sz) [(h1, .inl (cB, n, .inl u))] [(cB, .byte)] t) (va_A [(h1, .inl (cB, n, .inl f))] sz)) 0 0 (va_A [(h1, .inl (cB, n, .inl f))] sz) := by
  refine Met.ofW (cc := b_Ar_fillB) (maxL := 4) (ret := none) (by decide) rfl ?_
  intro p e s m args below meth c s₁ B hml hv
  obtain ⟨rfl, hsz, hP, hK, hD0⟩ := hv
  have hx := B.exec
  have hb := B.bytes
  have hr := B.returns
  have hts0 := atoms_spec (ws := .code y_Ar_fillB b_Ar_fillB 4 none :: V_J) B.pre
  have hts : ∀ w ∈ V_J, w.before ([.ref h1, .int p1] : List Value).toArray s = true := fun w h => hts0 w (List.mem_cons_of_mem _ h)
  have hown : s.vm.findClass R_Ar = some m.cls := findClass_of_methodNamed B.named
  have hlocks := B.notSynchronized
  subst hsz
  have hD := hD0.self (sz := s.heap.size)
  generalize hAe : va_A [(h1, .inl (cB, n, .inl f))] s.heap.size = A at hD ⊢
  have hA : ∀ q : Nat, s.heap.size ≤ q → A q := fun q h => by rw [← hAe]; exact Or.inr h
  have hS : va_S A s.heap s.heap [] := va_S.rf
  have hP : va_P (dC, dI) classes [(h1, .inl (cB, n, .inl f))] s.heap := hP
  have hK : va_K (dC, dI) classes [(cB, .byte)] s := hK
  have hl := lv_entry ([.ref h1, .int p1]) (n := 4) (Nat.le_of_ble_eq_true rfl)
  rw [lg_entry_eq]
  generalize (lg_sl ([.ref h1, .int p1]) ++ List.replicate (4 - (lg_sl ([.ref h1, .int p1])).length) Slot.unset).toArray = ls at hl ⊢
  have hl : lv_has ls 4 [(0, .ref h1), (1, .int p1)] := hl
  refine qabs (fun Q hQ => ?_)
  have hL5 : ∀ (k_ : Nat) (i : Nat) (H : Heap) (locs : List Loc) (ls : Array Slot), n - i < k_ → (i ≤ n) → va_P (dC, dI) classes [(h1, .inl (cB, n, .inl (ar_fill f 0 i (vp_nar .byte p1))))] H → va_D A [(h1, .inl (cB, n, .inl (ar_fill f 0 i (vp_nar .byte p1))))] → va_S A s.heap H locs → lv_has ls 4 [(0, .ref h1), (1, .int p1), (2, .int (nI i)), (3, .int (nI n))] → W p l e ({ frames := 0, cells := 0, slots := 0, locals := 0 }) s m ([.ref h1, .int p1] : List Value).toArray below meth c H locs 0 0 Q (F0 m 5 ls []) := by
    intro k_
    induction k_ with
    | zero => intro i H locs ls hk_; exact absurd hk_ (Nat.not_lt_zero _)
    | succ k_ ih =>
      intro i H locs ls hk_ hi hP hD hS hl
      refine lv_iload_n hx hb d_Ar_fillB_5 rfl (lv_at hl 2 rfl) ?_
      refine lv_iload_n hx hb d_Ar_fillB_6 rfl (lv_at hl 3 rfl) ?_
      refine lv_icmp_ge (tgt := 20) hx hb d_Ar_fillB_7 (by decide) (fun c_1 => ?_) (fun c_1 => ?_)
      · have hi9 : i = n := Nat.le_antisymm hi ((nI_leI (by omega) (by omega)).mp c_1)
        rw [hQ]
        exact W.vret hx hb hr (fun t ht hW => ⟨⟨ar_fill f 0 i (vp_nar .byte p1), rfl, by rw [hi9], by rw [ht]; exact hP, va_K.moved hW.alike hK, hD⟩, hS.F ht⟩) hS.2.2 d_Ar_fillB_20
      · have hlt : i < n := Nat.lt_of_not_le (fun h => c_1 ((nI_leI (by omega) (by omega)).mpr h))
        refine lv_aload_n hx hb d_Ar_fillB_10 rfl (lv_at hl 0 rfl) ?_
        refine lv_iload_n hx hb d_Ar_fillB_11 rfl (lv_at hl 2 rfl) ?_
        refine lv_iload_n hx hb d_Ar_fillB_12 rfl (lv_at hl 1 rfl) ?_
        refine va_bast hx hb hK hP hD hS 0 0 rfl rfl (vp_in_nI hlt hn) d_Ar_fillB_13 (fun H locs hP hD hS => ?_)
        have hP : va_P (dC, dI) classes [(h1, .inl (cB, n, .inl (upd (ar_fill f 0 i (vp_nar .byte p1)) (nI i).toNatClampNeg (vp_nar .byte p1))))] H := hP
        have hD : va_D A [(h1, .inl (cB, n, .inl (upd (ar_fill f 0 i (vp_nar .byte p1)) (nI i).toNatClampNeg (vp_nar .byte p1))))] := hD
        refine lv_iinc (v := nI (i + 1)) (lv' := [(2, .int (nI (i + 1))), (0, .ref h1), (1, .int p1), (3, .int (nI n))]) hx hb d_Ar_fillB_14 hl (k := 2) rfl (by exact nI_1 i) (by decide) rfl (fun ls hl => ?_)
        refine lv_goto (tgt := 5) hx hb d_Ar_fillB_17 (by decide) ?_
        rw [ar_fill1 (Nat.zero_le _) (by omega)] at hP hD
        exact ih (i + 1) _ _ _ (by omega) hlt hP hD hS (lv_sub hl [1, 2, 0, 3] rfl)
  refine lv_iconst (v := 0) hx hb d_Ar_fillB_0 (by decide) ?_
  refine lv_istore_n (lv' := [(2, .int 0), (0, .ref h1), (1, .int p1)]) hx hb d_Ar_fillB_1 rfl hl (by decide) rfl (fun ls hl => ?_)
  refine lv_aload_n hx hb d_Ar_fillB_2 rfl (lv_at hl 1 rfl) ?_
  refine va_alen (v := nI n) hx hb hK hP 0 0 rfl rfl rfl d_Ar_fillB_3 ?_
  refine lv_istore_n (lv' := [(3, .int (nI n)), (2, .int 0), (0, .ref h1), (1, .int p1)]) hx hb d_Ar_fillB_4 rfl hl (by decide) rfl (fun ls hl => ?_)
  rw [← ar_fill0 f 0 (vp_nar .byte p1)] at hP hD
  exact hL5 (n + 1) 0 _ _ _ (by omega) (Nat.zero_le _) hP hD hS (lv_sub hl [2, 3, 1, 0] rfl)
set_option maxHeartbeats 4000000 in
set_option maxRecDepth 100000 in
/-- Arrays.fill(int[], int) -/
theorem c_Ar_fillI (l : Launch) (dC : Nat → ClassId) (dI : Nat → Nat → Nat) (h1 sz : Nat) (cB : ClassId) (n : Nat) (f : Nat → Int32) (hn : n < 2 ^ 31) (p1 : Int32) : Met l y_Ar_fillI (.code y_Ar_fillI b_Ar_fillI 4 none :: V_J) ({ frames := 0, cells := 0, slots := 0, locals := 0 }) (va_Pc [.ref h1, .int p1] (fun U => U.heap.size = sz ∧ at_ (dC, dI) (fun _ => True) [(h1, .inl (cB, n, .inl f))] [(cB, .int)] U)) (va_Qv (fun u : Nat → Int32 => u = ar_fill f 0 n p1) (fun (u : Nat → Int32) t => at_ (dC, dI) (va_A [(h1, .inl (cB, n, .inl f))] sz) [(h1, .inl (cB, n, .inl u))] [(cB, .int)] t) (va_A [(h1, .inl (cB, n, .inl f))] sz)) 0 0 (va_A [(h1, .inl (cB, n, .inl f))] sz) := by
  refine Met.ofW (cc := b_Ar_fillI) (maxL := 4) (ret := none) (by decide) rfl ?_
  intro p e s m args below meth c s₁ B hml hv
  obtain ⟨rfl, hsz, hP, hK, hD0⟩ := hv
  have hx := B.exec
  have hb := B.bytes
  have hr := B.returns
  have hts0 := atoms_spec (ws := .code y_Ar_fillI b_Ar_fillI 4 none :: V_J) B.pre
  have hts : ∀ w ∈ V_J, w.before ([.ref h1, .int p1] : List Value).toArray s = true := fun w h => hts0 w (List.mem_cons_of_mem _ h)
  have hown : s.vm.findClass R_Ar = some m.cls := findClass_of_methodNamed B.named
  have hlocks := B.notSynchronized
  subst hsz
  have hD := hD0.self (sz := s.heap.size)
  generalize hAe : va_A [(h1, .inl (cB, n, .inl f))] s.heap.size = A at hD ⊢
  have hA : ∀ q : Nat, s.heap.size ≤ q → A q := fun q h => by rw [← hAe]; exact Or.inr h
  have hS : va_S A s.heap s.heap [] := va_S.rf
  have hP : va_P (dC, dI) classes [(h1, .inl (cB, n, .inl f))] s.heap := hP
  have hK : va_K (dC, dI) classes [(cB, .int)] s := hK
  have hl := lv_entry ([.ref h1, .int p1]) (n := 4) (Nat.le_of_ble_eq_true rfl)
  rw [lg_entry_eq]
  generalize (lg_sl ([.ref h1, .int p1]) ++ List.replicate (4 - (lg_sl ([.ref h1, .int p1])).length) Slot.unset).toArray = ls at hl ⊢
  have hl : lv_has ls 4 [(0, .ref h1), (1, .int p1)] := hl
  refine qabs (fun Q hQ => ?_)
  have hL5 : ∀ (k_ : Nat) (i : Nat) (H : Heap) (locs : List Loc) (ls : Array Slot), n - i < k_ → (i ≤ n) → va_P (dC, dI) classes [(h1, .inl (cB, n, .inl (ar_fill f 0 i p1)))] H → va_D A [(h1, .inl (cB, n, .inl (ar_fill f 0 i p1)))] → va_S A s.heap H locs → lv_has ls 4 [(0, .ref h1), (1, .int p1), (2, .int (nI i)), (3, .int (nI n))] → W p l e ({ frames := 0, cells := 0, slots := 0, locals := 0 }) s m ([.ref h1, .int p1] : List Value).toArray below meth c H locs 0 0 Q (F0 m 5 ls []) := by
    intro k_
    induction k_ with
    | zero => intro i H locs ls hk_; exact absurd hk_ (Nat.not_lt_zero _)
    | succ k_ ih =>
      intro i H locs ls hk_ hi hP hD hS hl
      refine lv_iload_n hx hb d_Ar_fillI_5 rfl (lv_at hl 2 rfl) ?_
      refine lv_iload_n hx hb d_Ar_fillI_6 rfl (lv_at hl 3 rfl) ?_
      refine lv_icmp_ge (tgt := 20) hx hb d_Ar_fillI_7 (by decide) (fun c_1 => ?_) (fun c_1 => ?_)
      · have hi9 : i = n := Nat.le_antisymm hi ((nI_leI (by omega) (by omega)).mp c_1)
        rw [hQ]
        exact W.vret hx hb hr (fun t ht hW => ⟨⟨ar_fill f 0 i p1, rfl, by rw [hi9], by rw [ht]; exact hP, va_K.moved hW.alike hK, hD⟩, hS.F ht⟩) hS.2.2 d_Ar_fillI_20
      · have hlt : i < n := Nat.lt_of_not_le (fun h => c_1 ((nI_leI (by omega) (by omega)).mpr h))
        refine lv_aload_n hx hb d_Ar_fillI_10 rfl (lv_at hl 0 rfl) ?_
        refine lv_iload_n hx hb d_Ar_fillI_11 rfl (lv_at hl 2 rfl) ?_
        refine lv_iload_n hx hb d_Ar_fillI_12 rfl (lv_at hl 1 rfl) ?_
        refine va_iast hx hb hK hP hD hS 0 0 rfl rfl (vp_in_nI hlt hn) d_Ar_fillI_13 (fun H locs hP hD hS => ?_)
        have hP : va_P (dC, dI) classes [(h1, .inl (cB, n, .inl (upd (ar_fill f 0 i p1) (nI i).toNatClampNeg p1)))] H := hP
        have hD : va_D A [(h1, .inl (cB, n, .inl (upd (ar_fill f 0 i p1) (nI i).toNatClampNeg p1)))] := hD
        refine lv_iinc (v := nI (i + 1)) (lv' := [(2, .int (nI (i + 1))), (0, .ref h1), (1, .int p1), (3, .int (nI n))]) hx hb d_Ar_fillI_14 hl (k := 2) rfl (by exact nI_1 i) (by decide) rfl (fun ls hl => ?_)
        refine lv_goto (tgt := 5) hx hb d_Ar_fillI_17 (by decide) ?_
        rw [ar_fill1 (Nat.zero_le _) (by omega)] at hP hD
        exact ih (i + 1) _ _ _ (by omega) hlt hP hD hS (lv_sub hl [1, 2, 0, 3] rfl)
  refine lv_iconst (v := 0) hx hb d_Ar_fillI_0 (by decide) ?_
  refine lv_istore_n (lv' := [(2, .int 0), (0, .ref h1), (1, .int p1)]) hx hb d_Ar_fillI_1 rfl hl (by decide) rfl (fun ls hl => ?_)
  refine lv_aload_n hx hb d_Ar_fillI_2 rfl (lv_at hl 1 rfl) ?_
  refine va_alen (v := nI n) hx hb hK hP 0 0 rfl rfl rfl d_Ar_fillI_3 ?_
  refine lv_istore_n (lv' := [(3, .int (nI n)), (2, .int 0), (0, .ref h1), (1, .int p1)]) hx hb d_Ar_fillI_4 rfl hl (by decide) rfl (fun ls hl => ?_)
  rw [← ar_fill0 f 0 p1] at hP hD
  exact hL5 (n + 1) 0 _ _ _ (by omega) (Nat.zero_le _) hP hD hS (lv_sub hl [2, 3, 1, 0] rfl)
set_option maxHeartbeats 4000000 in
set_option maxRecDepth 100000 in
/-- rangeCheck of a range that is one -/
theorem c_Ar_rangeCheck (l : Launch) (dC : Nat → ClassId) (dI : Nat → Nat → Nat) (sz : Nat) (p0 p1 p2 : Int32) (g1 : p1 ≤ p2) (g2 : 0 ≤ p1) (g3 : p2 ≤ p0) : Met l y_Ar_rangeCheck (.code y_Ar_rangeCheck b_Ar_rangeCheck 3 none :: V_J) ({ frames := 0, cells := 0, slots := 0, locals := 0 }) (va_Pc [.int p0, .int p1, .int p2] (fun U => U.heap.size = sz ∧ at_ (dC, dI) (fun _ => True) [] [] U)) (va_Qv (fun u : Unit => True) (fun (u : Unit) t => at_ (dC, dI) (va_A [] sz) [] [] t) (va_A [] sz)) 0 0 (va_A [] sz) := by
  refine Met.ofW (cc := b_Ar_rangeCheck) (maxL := 3) (ret := none) (by decide) rfl ?_
  intro p e s m args below meth c s₁ B hml hv
  obtain ⟨rfl, hsz, hP, hK, hD0⟩ := hv
  have hx := B.exec
  have hb := B.bytes
  have hr := B.returns
  have hts0 := atoms_spec (ws := .code y_Ar_rangeCheck b_Ar_rangeCheck 3 none :: V_J) B.pre
  have hts : ∀ w ∈ V_J, w.before ([.int p0, .int p1, .int p2] : List Value).toArray s = true := fun w h => hts0 w (List.mem_cons_of_mem _ h)
  have hown : s.vm.findClass R_Ar = some m.cls := findClass_of_methodNamed B.named
  have hlocks := B.notSynchronized
  subst hsz
  have hD := hD0.self (sz := s.heap.size)
  generalize hAe : va_A [] s.heap.size = A at hD ⊢
  have hA : ∀ q : Nat, s.heap.size ≤ q → A q := fun q h => by rw [← hAe]; exact Or.inr h
  have hS : va_S A s.heap s.heap [] := va_S.rf
  have hP : va_P (dC, dI) classes [] s.heap := hP
  have hK : va_K (dC, dI) classes [] s := hK
  have hl := lv_entry ([.int p0, .int p1, .int p2]) (n := 3) (Nat.le_of_ble_eq_true rfl)
  rw [lg_entry_eq]
  generalize (lg_sl ([.int p0, .int p1, .int p2]) ++ List.replicate (3 - (lg_sl ([.int p0, .int p1, .int p2])).length) Slot.unset).toArray = ls at hl ⊢
  have hl : lv_has ls 3 [(0, .int p0), (1, .int p1), (2, .int p2)] := hl
  refine lv_iload_n hx hb d_Ar_rangeCheck_0 rfl (lv_at hl 1 rfl) ?_
  refine lv_iload_n hx hb d_Ar_rangeCheck_1 rfl (lv_at hl 2 rfl) ?_
  refine lv_icmp_le (tgt := 46) hx hb d_Ar_rangeCheck_2 (by decide) (fun c_1 => ?_) (fun c_1 => ?_)
  · refine lv_iload_n hx hb d_Ar_rangeCheck_46 rfl (lv_at hl 1 rfl) ?_
    refine lv_if_ge (tgt := 59) hx hb d_Ar_rangeCheck_47 (by decide) (fun c_2 => ?_) (fun c_2 => ?_)
    · refine lv_iload_n hx hb d_Ar_rangeCheck_59 rfl (lv_at hl 2 rfl) ?_
      refine lv_iload_n hx hb d_Ar_rangeCheck_60 rfl (lv_at hl 0 rfl) ?_
      refine lv_icmp_le (tgt := 73) hx hb d_Ar_rangeCheck_61 (by decide) (fun c_3 => ?_) (fun c_3 => ?_)
      · exact W.vret hx hb hr (fun t ht hW => ⟨⟨(), rfl, trivial, by rw [ht]; exact hP, va_K.moved hW.alike hK, hD⟩, hS.F ht⟩) hS.2.2 d_Ar_rangeCheck_73
      · exact absurd g3 c_3
    · exact absurd g2 c_2
  · exact absurd g1 c_1
set_option maxHeartbeats 4000000 in
set_option maxRecDepth 100000 in
/-- Arrays.fill(byte[], int, int, byte) of a range that is one -/
theorem c_Ar_fillBR (l : Launch) (dC : Nat → ClassId) (dI : Nat → Nat → Nat) (h1 sz : Nat) (cB : ClassId) (n : Nat) (f : Nat → Int32) (hn : n < 2 ^ 31) (lo hi : Nat) (gl : lo ≤ hi) (gh : hi ≤ n) (p3 : Int32) : Met l y_Ar_fillBR (.code y_Ar_fillBR b_Ar_fillBR 5 none :: V_J) ({ frames := 1, cells := 0, slots := 0, locals := 22 }) (va_Pc [.ref h1, .int (nI lo), .int (nI hi), .int p3] (fun U => U.heap.size = sz ∧ at_ (dC, dI) (fun _ => True) [(h1, .inl (cB, n, .inl f))] [(cB, .byte)] U)) (va_Qv (fun u : Nat → Int32 => u = ar_fill f lo hi (vp_nar .byte p3)) (fun (u : Nat → Int32) t => at_ (dC, dI) (va_A [(h1, .inl (cB, n, .inl f))] sz) [(h1, .inl (cB, n, .inl u))] [(cB, .byte)] t) (va_A [(h1, .inl (cB, n, .inl f))] sz)) 0 0 (va_A [(h1, .inl (cB, n, .inl f))] sz) := by
  refine Met.ofW (cc := b_Ar_fillBR) (maxL := 5) (ret := none) (by decide) rfl ?_
  intro p e s m args below meth c s₁ B hml hv
  obtain ⟨rfl, hsz, hP, hK, hD0⟩ := hv
  have hx := B.exec
  have hb := B.bytes
  have hr := B.returns
  have hts0 := atoms_spec (ws := .code y_Ar_fillBR b_Ar_fillBR 5 none :: V_J) B.pre
  have hts : ∀ w ∈ V_J, w.before ([.ref h1, .int (nI lo), .int (nI hi), .int p3] : List Value).toArray s = true := fun w h => hts0 w (List.mem_cons_of_mem _ h)
  have hown : s.vm.findClass R_Ar = some m.cls := findClass_of_methodNamed B.named
  have hlocks := B.notSynchronized
  subst hsz
  have hD := hD0.self (sz := s.heap.size)
  generalize hAe : va_A [(h1, .inl (cB, n, .inl f))] s.heap.size = A at hD ⊢
  have hA : ∀ q : Nat, s.heap.size ≤ q → A q := fun q h => by rw [← hAe]; exact Or.inr h
  have hS : va_S A s.heap s.heap [] := va_S.rf
  have hP : va_P (dC, dI) classes [(h1, .inl (cB, n, .inl f))] s.heap := hP
  have hK : va_K (dC, dI) classes [(cB, .byte)] s := hK
  have hl := lv_entry ([.ref h1, .int (nI lo), .int (nI hi), .int p3]) (n := 5) (Nat.le_of_ble_eq_true rfl)
  rw [lg_entry_eq]
  generalize (lg_sl ([.ref h1, .int (nI lo), .int (nI hi), .int p3]) ++ List.replicate (5 - (lg_sl ([.ref h1, .int (nI lo), .int (nI hi), .int p3])).length) Slot.unset).toArray = ls at hl ⊢
  have hl : lv_has ls 5 [(0, .ref h1), (1, .int (nI lo)), (2, .int (nI hi)), (3, .int p3)] := hl
  refine qabs (fun Q hQ => ?_)
  have hL10 : ∀ (k_ : Nat) (i : Nat) (H : Heap) (locs : List Loc) (ls : Array Slot), hi - i < k_ → (lo ≤ i) → (i ≤ hi) → va_P (dC, dI) classes [(h1, .inl (cB, n, .inl (ar_fill f lo i (vp_nar .byte p3))))] H → va_D A [(h1, .inl (cB, n, .inl (ar_fill f lo i (vp_nar .byte p3))))] → va_S A s.heap H locs → lv_has ls 5 [(0, .ref h1), (1, .int (nI lo)), (2, .int (nI hi)), (3, .int p3), (4, .int (nI i))] → W p l e ({ frames := 1, cells := 0, slots := 0, locals := 22 }) s m ([.ref h1, .int (nI lo), .int (nI hi), .int p3] : List Value).toArray below meth c H locs 0 0 Q (F0 m 10 ls []) := by
    intro k_
    induction k_ with
    | zero => intro i H locs ls hk_; exact absurd hk_ (Nat.not_lt_zero _)
    | succ k_ ih =>
      intro i H locs ls hk_ hlo hhi hP hD hS hl
      refine lv_iload hx hb d_Ar_fillBR_10 (lv_at hl 4 rfl) ?_
      refine lv_iload_n hx hb d_Ar_fillBR_12 rfl (lv_at hl 2 rfl) ?_
      refine lv_icmp_ge (tgt := 27) hx hb d_Ar_fillBR_13 (by decide) (fun c_1 => ?_) (fun c_1 => ?_)
      · have hi9 : i = hi := Nat.le_antisymm hhi ((nI_leI (by omega) (by omega)).mp c_1)
        rw [hQ]
        exact W.vret hx hb hr (fun t ht hW => ⟨⟨ar_fill f lo i (vp_nar .byte p3), rfl, by rw [hi9], by rw [ht]; exact hP, va_K.moved hW.alike hK, hD⟩, hS.F ht⟩) hS.2.2 d_Ar_fillBR_27
      · have hlt : i < hi := Nat.lt_of_not_le (fun h => c_1 ((nI_leI (by omega) (by omega)).mpr h))
        refine lv_aload_n hx hb d_Ar_fillBR_16 rfl (lv_at hl 0 rfl) ?_
        refine lv_iload hx hb d_Ar_fillBR_17 (lv_at hl 4 rfl) ?_
        refine lv_iload_n hx hb d_Ar_fillBR_19 rfl (lv_at hl 3 rfl) ?_
        refine va_bast hx hb hK hP hD hS 0 0 rfl rfl (vp_in_nI (Nat.lt_of_lt_of_le hlt gh) hn) d_Ar_fillBR_20 (fun H locs hP hD hS => ?_)
        have hP : va_P (dC, dI) classes [(h1, .inl (cB, n, .inl (upd (ar_fill f lo i (vp_nar .byte p3)) (nI i).toNatClampNeg (vp_nar .byte p3))))] H := hP
        have hD : va_D A [(h1, .inl (cB, n, .inl (upd (ar_fill f lo i (vp_nar .byte p3)) (nI i).toNatClampNeg (vp_nar .byte p3))))] := hD
        refine lv_iinc (v := nI (i + 1)) (lv' := [(4, .int (nI (i + 1))), (0, .ref h1), (1, .int (nI lo)), (2, .int (nI hi)), (3, .int p3)]) hx hb d_Ar_fillBR_21 hl (k := 4) rfl (by exact nI_1 i) (by decide) rfl (fun ls hl => ?_)
        refine lv_goto (tgt := 10) hx hb d_Ar_fillBR_24 (by decide) ?_
        rw [ar_fill1 hlo (by omega)] at hP hD
        exact ih (i + 1) _ _ _ (by omega) (by omega) hlt hP hD hS (lv_sub hl [1, 2, 3, 4, 0] rfl)
  refine lv_aload_n hx hb d_Ar_fillBR_0 rfl (lv_at hl 0 rfl) ?_
  refine va_alen (v := nI n) hx hb hK hP 0 0 rfl rfl rfl d_Ar_fillBR_1 ?_
  refine lv_iload_n hx hb d_Ar_fillBR_2 rfl (lv_at hl 1 rfl) ?_
  refine lv_iload_n hx hb d_Ar_fillBR_3 rfl (lv_at hl 2 rfl) ?_
  have hPc := hP.sub (ws' := []) [] rfl
  have hDc := hD.sub (ws' := []) [] (by decide) rfl
  have hKc := hK.sub (tys' := []) [] rfl
  have hFc := va_free (wc := []) hD hS hA [] rfl
  refine va_callv (va_runS (As := [.int (nI n), .int (nI lo), .int (nI hi)]) (rest := []) ⟨hx, hb, hml, hown, hts⟩ (c_Ar_rangeCheck l dC dI s.heap.size (nI n) (nI lo) (nI hi) (nI_le gl (by omega)) (nI_pos' (by omega)) (nI_le gh hn)) (va_cwS 3 hts (gwS good_J (k_J_26) (k_J_27) (k_J_2) (wcs (k_J_28) (fun _ h => h))) rfl rfl rfl (by decide +kernel) ⟨Nat.le_of_ble_eq_true rfl, Nat.le_of_ble_eq_true rfl⟩) (ps_of hPc hKc hDc) rfl rfl hl.1 rfl (lv_room (Nat.le_of_ble_eq_true rfl)) d_Ar_fillBR_4 ⟨by decide, by decide⟩) hS (fun q _ h => hFc q h) hFc (fun u t H1 locs ht hvm hw hB hz1 hk1 hS => ?_)
  obtain ⟨hP1, hK1, hD1⟩ := hB
  rw [ht] at hP1
  have hP1 : va_P (dC, dI) classes [] H1 := hP1
  have hD1 : va_D _ [] := hD1
  obtain ⟨hP, hD⟩ := va_join (wr := [(h1, .inl (cB, n, .inl f))]) (w1 := []) hP hD [] [0] rfl rfl (by decide) (by decide) hk1 hFc hP1 hD1
  generalize H1 = H at hP hS ⊢
  have hP : va_P (dC, dI) classes [(h1, .inl (cB, n, .inl f))] H := hP
  have hD : va_D A [(h1, .inl (cB, n, .inl f))] := hD
  refine lv_iload_n hx hb d_Ar_fillBR_7 rfl (lv_at hl 1 rfl) ?_
  refine lv_istore (lv' := [(4, .int (nI lo)), (0, .ref h1), (1, .int (nI lo)), (2, .int (nI hi)), (3, .int p3)]) hx hb d_Ar_fillBR_8 hl (by decide) rfl (fun ls hl => ?_)
  rw [← ar_fill0 f lo (vp_nar .byte p3)] at hP hD
  exact hL10 (n + 1) lo _ _ _ (by omega) (Nat.le_refl _) gl hP hD hS (lv_sub hl [1, 2, 3, 4, 0] rfl)
