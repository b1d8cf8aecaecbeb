/-! What a throw of own wants, as a premise that is carried along. -/
def x_T (own : String) (ic : Nat) (X : String) (is : Nat) (text : String) (U : State) : Prop := x_Thr own ic X U ∧ ∃ q, vk_R own is text q U
theorem x_T.same {own X text : String} {ic is : Nat} (hall : (Bundle.ownAtoms own ic X x_n2).all (fun c => x_kind (Bundle.ownAtoms own ic X x_n2) c && c.keepsCast) = true) {U V : State} (h1 : V.vm = U.vm) (h2 : V.heap = U.heap) (h : x_T own ic X is text U) : x_T own ic X is text V := by
  obtain ⟨h3, q, h4⟩ := h
  refine ⟨fun A a ha => ?_, q, vk_R.same (u := U) h1 h4⟩
  have h5 := List.all_eq_true.mp hall a ha
  simp only [Bool.and_eq_true] at h5
  exact x_heap (s := U) (U := V) (A := A) h1.symm (by rw [h2]; exact x_kept.refl _) (h3 A) a ha h5.1
theorem x_T.at {own X text : String} {ic is : Nat} (hall : (Bundle.ownAtoms own ic X x_n2).all (fun c => x_kind (Bundle.ownAtoms own ic X x_n2) c && c.keepsCast) = true) {s U : State} (h : x_T own ic X is text s) (hW : s.WarmedH U.vm) (hk : x_kept s.heap U.heap) : x_T own ic X is text U := by
  obtain ⟨h3, q, h4⟩ := h
  exact ⟨h3.move hall hW hk, q, vk_R.warm hW h4⟩
theorem pv_ofE {s : State} {H : Heap} {D : va_G} {W : va_W} {tys : List (ClassId × FieldType)} {As : List Value} {A : Nat → Prop} {b : Nat} {C : String} {E : State → Prop} (hEs : ∀ U V : State, V.vm = U.vm → V.heap = U.heap → E U → E V) (hEw : ∀ U : State, U.heap = H → s.WarmedH U.vm → E U) (hP : va_P D classes W H) (hK : va_K D classes tys s) (hD : va_D A W) (hr : ∃ cell : Cell, H[b]? = some cell ∧ cell.vm.isStatics = false ∧ s.vm.findClass C = some cell.cls) : PreV s H C b (va_Pc (.ref b :: As) (fun U => U.heap.size = H.size ∧ at_ D (fun _ => True) W tys U ∧ E U)) As :=
  ⟨fun a U g mk q => by obtain ⟨q0, q1, ⟨qP, qK, qD⟩, qE⟩ := q; exact ⟨q0, q1, ⟨qP, va_K.moved (u := U) (U := U.calling g mk a) (Vm.Alike.refl U.vm) qK, qD⟩, hEs U _ rfl rfl qE⟩, hr, fun U hU hW => ⟨rfl, by rw [hU], ⟨by rw [hU]; exact hP, va_K.moved hW.alike hK, hD.weaken (fun _ _ _ _ => trivial)⟩, hEw U hU hW⟩⟩
/-- a callee threw: the caller's world then -/
theorem x_outQ {D : va_G} {A : Nat → Prop} {ws wc wr w1 : va_W} {tys tysc : List (ClassId × FieldType)} {H : Heap} {locs : List Loc} {s st t U : State} {cls E : String} (hS : va_S A s.heap H locs) (hP : va_P D classes ws H) (hD : va_D A ws) (hK : va_K D classes tys s) (isC isR : List Nat) (hC : isC.map (fun i => ws[i]?) = wc.map some) (hR : isR.map (fun i => ws[i]?) = wr.map some) (hn : va_nd isR = true) (hdis : ∀ i ∈ isR, i ∉ isC) (hF : ∀ q, va_A wc H.size q → A q) (h1 : st.heap = H) (hX : x_Q cls (va_A wc H.size) (at_ D (va_A wc H.size) w1 tysc) E st t) (hU : U.heap = t.heap) (hal : s.vm.Alike U.vm) : x_Q cls A (at_ D A (wr ++ w1) tys) E s U := by
  subst h1
  obtain ⟨rfl, hF1, hP1, hK1, hD1⟩ := hX
  obtain ⟨hPj, hDj⟩ := va_join hP hD isC isR hC hR hn hdis hF1.2 hF hP1 hD1
  exact ⟨rfl, ⟨by rw [hU]; exact Nat.le_trans hS.1 hF1.1, fun q g1 g2 => by rw [hU, hF1.2 q (Nat.lt_of_lt_of_le g1 hS.1) (fun z => g2 (hF q z))]; exact hS.2.1 q g1 g2⟩, by rw [hU]; exact hPj, hK.moved hal, hDj⟩
