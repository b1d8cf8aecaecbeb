theorem x_catS {A Ac : Nat → Prop} {H0 H : Heap} {locs L : List Loc} {st t : State} (hS : va_S A H0 H locs) (z1 : st.heap = H) (z3 : va_F Ac st t) (hF : ∀ q, Ac q → A q) (z5 : ∀ z ∈ L, Ac z.base) : va_S A H0 t.heap (locs ++ L) := by
  subst z1
  refine ⟨Nat.le_trans hS.1 z3.1, fun q h1 h2 => ?_, fun l hl => ?_⟩
  · rw [z3.2 q (Nat.lt_of_lt_of_le h1 hS.1) (fun z => h2 (hF q z))]
    exact hS.2.1 q h1 h2
  · rcases List.mem_append.mp hl with h | h
    · exact hS.2.2 l h
    · exact hF _ (z5 l h)
theorem hlen_of {y : MethodName} {n : Nat} (h2 : (parseMethodDescriptor y.desc).map (fun d => d.parameters.length) = some n) : ∀ sig, parseMethodDescriptor y.desc = some sig → n = sig.parameters.length := fun sig h => by
  rw [h] at h2
  exact (Option.some.inj h2).symm
theorem ps_ofE {s : State} {H : Heap} {D : va_G} {W : va_W} {tys : List (ClassId × FieldType)} {As : List Value} {A : Nat → Prop} {E : State → Prop} (hEs : ∀ U V : State, V.vm = U.vm → V.heap = U.heap → E U → E V) (hEw : ∀ U : State, U.heap = H → s.WarmedH U.vm → E U) (hP : va_P D classes W H) (hK : va_K D classes tys s) (hD : va_D A W) : PreS s H (va_Pc As (fun U => U.heap.size = H.size ∧ at_ D (fun _ => True) W tys U ∧ E U)) As :=
  ⟨fun a U g mk q => by obtain ⟨q0, q1, ⟨qP, qK, qD⟩, qE⟩ := q; exact ⟨q0, q1, ⟨qP, va_K.moved (u := U) (U := U.calling g mk a) (Vm.Alike.refl U.vm) qK, qD⟩, hEs U _ rfl rfl qE⟩, fun U hU hW => ⟨rfl, by rw [hU], ⟨by rw [hU]; exact hP, va_K.moved hW.alike hK, hD.weaken (fun _ _ _ _ => trivial)⟩, hEw U hU hW⟩⟩
theorem la_Xs {b L : Nat} {xs : Nat → Int32} {U V : State} (h1 : V.vm = U.vm) (h2 : V.heap = U.heap) (h : va_X b L xs U U.heap) : va_X b L xs V V.heap := by
  rw [h2]
  exact va_X.moved (by rw [h1]; exact Vm.Alike.refl _) h
set_option maxHeartbeats 4000000 in
set_option maxRecDepth 100000 in
/-- an int of the script -/
theorem c_La_cell (l : Launch) (dC : Nat → ClassId) (dI : Nat → Nat → Nat) (b L sz : Nat) (xs : Nat → Int32) (hL : L < 2 ^ 31) (p1 : Int32) : Met l y_La_cell (.code y_La_cell b_La_cell 2 (some .int) :: V_La) ({ frames := 0, cells := 0, slots := 0, locals := 0 }) (va_Pc [.ref b, .int p1] (fun U => U.heap.size = sz ∧ at_ (dC, dI) (fun _ => True) [] [] U ∧ (va_X b L xs U U.heap ∧ b < U.heap.size ∧ ¬ p1 < 0))) (va_Qi (fun (r : Int32) (u : Unit) => r = (if Int32.ofNat L ≤ p1 then 0 else xs p1.toNatClampNeg)) (fun (u : Unit) t => at_ (dC, dI) (va_A [] sz) [] [] t) (va_A [] sz)) 0 0 (va_A [] sz) := by
  refine Met.ofW (cc := b_La_cell) (maxL := 2) (ret := (some .int)) (by decide) rfl ?_
  intro p e s m args below meth c s₁ B hml hv
  obtain ⟨rfl, hsz, ⟨hP, hK, hD0⟩, hE⟩ := hv
  have hx := B.exec
  have hb := B.bytes
  have hr := B.returns
  have hts0 := atoms_spec (ws := .code y_La_cell b_La_cell 2 (some .int) :: V_La) B.pre
  have hts : ∀ w ∈ V_La, w.before ([.ref b, .int p1] : List Value).toArray s = true := fun w h => hts0 w (List.mem_cons_of_mem _ h)
  have hown : s.vm.findClass R_La = some m.cls := findClass_of_methodNamed B.named
  have hlocks := B.notSynchronized
  subst hsz
  have hD := hD0.self (sz := s.heap.size)
  generalize hAe : va_A [] s.heap.size = A at hD ⊢
  have hA : ∀ q : Nat, s.heap.size ≤ q → A q := fun q h => by rw [← hAe]; exact Or.inr h
  have hS : va_S A s.heap s.heap [] := va_S.rf
  have hP : va_P (dC, dI) classes [] s.heap := hP
  have hK : va_K (dC, dI) classes [] s := hK
  have hl := lv_entry ([.ref b, .int p1]) (n := 2) (Nat.le_of_ble_eq_true rfl)
  rw [lg_entry_eq]
  generalize (lg_sl ([.ref b, .int p1]) ++ List.replicate (2 - (lg_sl ([.ref b, .int p1])).length) Slot.unset).toArray = ls at hl ⊢
  have hl : lv_has ls 2 [(0, .ref b), (1, .int p1)] := hl
  obtain ⟨hX, hbl, hp0⟩ := hE
  have hbA : ¬ A b := by rw [← hAe]; exact fun h => h.elim (fun ⟨k, q, h⟩ => by simp at h) (fun h => by omega)
  refine lv_iload_n hx hb d_La_cell_0 rfl (lv_at hl 1 rfl) ?_
  refine lv_aload_n hx hb d_La_cell_1 rfl (lv_at hl 0 rfl) ?_
  refine va_slen hx hb hX hbl hbA hS d_La_cell_2 ?_
  refine lv_icmp_ge (tgt := 12) hx hb d_La_cell_3 (by decide) (fun c_1 => ?_) (fun c_1 => ?_)
  · refine lv_iconst (v := 0) hx hb d_La_cell_12 (by decide) ?_
    exact W.iret (v := 0) hx hb hr (fun t ht hW => ⟨⟨0, (), rfl, by rw [if_pos c_1], by rw [ht]; exact hP, va_K.moved hW.alike hK, hD⟩, hS.F ht⟩) hS.2.2 d_La_cell_13
  · refine lv_aload_n hx hb d_La_cell_6 rfl (lv_at hl 0 rfl) ?_
    refine lv_iload_n hx hb d_La_cell_7 rfl (lv_at hl 1 rfl) ?_
    refine va_sld hx hb hX hbl hbA hS (in_of hp0 c_1 hL) d_La_cell_8 ?_
    refine lv_goto (tgt := 13) hx hb d_La_cell_9 (by decide) ?_
    exact W.iret (v := (xs p1.toNatClampNeg)) hx hb hr (fun t ht hW => ⟨⟨(xs p1.toNatClampNeg), (), rfl, by rw [if_neg c_1], by rw [ht]; exact hP, va_K.moved hW.alike hK, hD⟩, hS.F ht⟩) hS.2.2 d_La_cell_13
