theorem W.mono {p : Program} {l : Launch} {e : Env} {R : Room} {s : State} {m : MethodId} {args : Array Value} {below : List Frame} {meth : Method} {c : Code} {H : Heap} {locs : List Loc} {cells slots : Nat} {Q Q' : State → Prop} {g : JFrame} (h : ∀ t, Q t → Q' t) (k : W p l e R s m args below meth c H locs cells slots Q g) : W p l e R s m args below meth c H locs cells slots Q' g := fun T hT X => by
  obtain ⟨t, a, b⟩ := k T hT X
  exact ⟨t, a, h t b⟩
theorem MetX.ofW {l : Launch} {y : MethodName} {ws ws' : List Cond} {rm : Room} {Pc : Array Value → State → Prop} {Qc : Array Value → State → Outcome → State → Prop} {Xc : String → State → State → Prop} {mc ms : Nat} {free : Addr → Prop} {cc : ByteArray} {maxL : Nat} {ret : Option FieldType}
    (hy : plainName y.cls = true) (hw : ws = Cond.code y cc maxL ret :: ws')
    (body : ∀ p e s m args below meth c s₁, BodyLoose p l y (headSpec ws rm) cc maxL ret e s m args below meth c s₁ → c.maxLocals = maxL → Pc args s →
      W p l e (headSpec ws rm).room s m args below meth c s.heap [] 0 0 (MQX below Qc Xc args s mc ms free) (entryFrame m args maxL)) : MetX l y ws rm Pc Qc Xc mc ms free := by
  refine MetFree.of_bodyS (code := cc) (maxLocals := maxL) (ret := ret) hy ?_ ?_
  · intro args s m h hn
    obtain ⟨meth, c, h1, h2, h3, h4, h5, h6, -, -⟩ := Cond.code_spec hn (atoms_spec (ws := ws) h _ (by rw [hw]; exact List.mem_cons_self))
    exact ⟨meth, c, h1, h2, h3, h4, h5, h6⟩
  · intro p e s m args below meth c s₁ B hml hP _
    have hh0 : s₁.heap = s.heap := by rw [B.state]; rfl
    obtain ⟨t, a1, hq⟩ := body p e s m args below meth c s₁ B hml hP s₁ hh0 (Stand.of_body B)
    rcases hq with ⟨o, b1, b2, b3⟩ | ⟨q, b1, b2, b3⟩
    · exact ⟨t, o, a1, b1, b2, Or.inl ⟨b3.1, b3.2⟩⟩
    · exact ⟨t, .threw q, a1, b1, b2, Or.inr ⟨q, rfl, b3⟩⟩
/-- the contract of a method with handlers -/
theorem MetW.ofW {l : Launch} {y : MethodName} {ws ws' : List Cond} {rm : Room} {Pc : Array Value → State → Prop} {Qc : Array Value → State → Outcome → State → Prop} {mc ms : Nat} {free : Addr → Prop} {cc : ByteArray} {maxL : Nat} {ret : Option FieldType} {handlers : List (Nat × Nat × Nat × Nat)}
    (hy : plainName y.cls = true) (hw : ws = Cond.codeWith y cc maxL ret handlers :: ws')
    (body : ∀ p e s m args below meth c s₁, BodyLoose p l y (headSpec ws rm) cc maxL ret e s m args below meth c s₁ → c.maxLocals = maxL → c.exceptionTable.toList = tableOf handlers → Pc args s →
      W p l e (headSpec ws rm).room s m args below meth c s.heap [] 0 0 (MQ below Qc args s mc ms free) (entryFrame m args maxL)) : Met l y ws rm Pc Qc mc ms free := by
  refine MetFree.of_bodyS (code := cc) (maxLocals := maxL) (ret := ret) hy ?_ ?_
  · intro args s m h hn
    obtain ⟨m', meth, c, h0, h1, h2, h3, h4, h5, h6, h7, -⟩ := Cond.codeWith_spec (atoms_spec (ws := ws) h _ (by rw [hw]; exact List.mem_cons_self))
    cases hn.symm.trans h0
    exact ⟨meth, c, h1, h2, h3, h4, h6, h7⟩
  · intro p e s m args below meth c s₁ B hml hP _
    have hh0 : s₁.heap = s.heap := by rw [B.state]; rfl
    have ht : c.exceptionTable.toList = tableOf handlers := by
      obtain ⟨m', meth', c', h0, h1, h2, h3, h4, h5, h6, h7, -⟩ := Cond.codeWith_spec (atoms_spec (ws := ws) B.pre _ (by rw [hw]; exact List.mem_cons_self))
      cases B.named.symm.trans h0
      cases B.method.symm.trans h1
      cases (Stand.of_body B).code.symm.trans h2
      rw [← h5, table_eq]
    obtain ⟨t, a1, o, b1, b2, b3⟩ := body p e s m args below meth c s₁ B hml ht hP s₁ hh0 (Stand.of_body B)
    exact ⟨t, o, a1, b1, b2, ⟨b3.1, b3.2⟩⟩
theorem x_found {s U : State} (hv : s.vm = U.vm) (O f d : String) : U.fieldFound? O f d = s.fieldFound? O f d := by
  unfold State.fieldFound?
  rw [hv]
theorem x_heap {A A' : Array Value} {s U : State} (hv : s.vm = U.vm) (hk : x_kept s.heap U.heap) {L : List Cond} (hL : ∀ a ∈ L, a.before A s = true) : ∀ c ∈ L, x_kind L c = true → c.before A' U = true := by
  have hls : ∀ {O f d : String}, (Cond.laysStatic O f d).before A s = true → ∃ c k i fd a cell, U.vm.findClass O = some c ∧ U.fieldFound? O f d = some (c, k, i, fd) ∧ s.fieldFound? O f d = some (c, k, i, fd) ∧ fd.isStatic = true ∧ k.statics = some a ∧ s.heap[a]? = some cell ∧ U.heap[a]? = some cell ∧ cell.vm.isStatics = true ∧ cell.cls = c ∧ fd.slot < cell.slots.size ∧ k.staticTypes[fd.slot]? = some fd.type := by
    intro O f d h
    obtain ⟨c, k, i, fd, a, cell, hc, hf, hst, hsta, hcell, hiss, hcls, hlt, hty⟩ := Cond.laysStatic_spec h
    exact ⟨c, k, i, fd, a, cell, by rw [← hv]; exact hc, by rw [x_found hv]; exact hf, hf, hst, hsta, hcell, hk _ _ hcell hiss, hiss, hcls, hlt, hty⟩
  intro c hc hkd
  have htab : c.onTables = true → c.before A' U = true := fun ht => va_tabs ht hv (hL c hc)
  cases c with
  | laysStatic O f d =>
    obtain ⟨c, k, i, fd, a, cell, h1, h2, -, h3, h4, -, h5, h6, h7, h8, h9⟩ := hls (hL _ hc)
    simp [Cond.before, Cond.holds, Cond.value, h1, h2, h3, h4, h5, h6, h7, h8, h9]
  | isRef t =>
    cases t with
    | static O f d =>
      simp only [x_kind, List.contains_iff_mem] at hkd
      obtain ⟨c, k, i, fd, a, cell, h1, h2, h2', h3, h4, h5', h5, h6, h7, h8, h9⟩ := hls (hL _ hkd)
      have h0 := hL _ hc
      have e1 : (Term.static O f d).eval A s none [] s = cell.slots[fd.slot]? := by simp [Term.eval, State.fieldNamed?, h2', h3, h4, h5', h6]
      have e2 : (Term.static O f d).eval A' U none [] U = cell.slots[fd.slot]? := by simp [Term.eval, State.fieldNamed?, h2, h3, h4, h5, h6]
      simp only [Cond.before, Cond.holds, Cond.value, e1] at h0
      simp only [Cond.before, Cond.holds, Cond.value, e2]
      exact h0
    | _ => exact htab hkd
  | _ => exact htab hkd
theorem x_Thr.move {own X : String} {ic : Nat} (hall : (Bundle.ownAtoms own ic X x_n2).all (fun c => x_kind (Bundle.ownAtoms own ic X x_n2) c && c.keepsCast) = true) {s U : State} (h : x_Thr own ic X s) (hW : s.WarmedH U.vm) (hk : x_kept s.heap U.heap) : x_Thr own ic X U := by
  intro A
  have h1 : ∀ a ∈ Bundle.ownAtoms own ic X x_n2, a.before A (s.setVm U.vm) = true := fun a ha => by
    have := List.all_eq_true.mp hall a ha
    simp only [Bool.and_eq_true] at this
    exact Cond.before_shiftedCast (State.Shifted.of_warmed hW) a this.2 (h A a ha)
  intro a ha
  have := List.all_eq_true.mp hall a ha
  simp only [Bool.and_eq_true] at this
  exact x_heap (s := s.setVm U.vm) (U := U) rfl hk h1 a ha this.1
theorem x_Thr.of {own X : String} {ic : Nat} (hall : (Bundle.ownAtoms own ic X x_n2).all (fun c => x_kind (Bundle.ownAtoms own ic X x_n2) c && c.keepsCast) = true) {A : Array Value} {s : State} (h : ∀ a ∈ Bundle.ownAtoms own ic X x_n2, a.before A s = true) : x_Thr own ic X s := by
  intro A' a ha
  have := List.all_eq_true.mp hall a ha
  simp only [Bool.and_eq_true] at this
  exact x_heap (A := A) rfl (fun _ _ h _ => h) h a ha this.1
theorem x_kept.trans {H0 H1 H2 : Heap} (h : x_kept H0 H1) (h' : x_kept H1 H2) : x_kept H0 H2 := fun q cell hc hs => h' q cell (h q cell hc hs) hs
theorem x_kept.refl (H : Heap) : x_kept H H := fun _ _ h _ => h
theorem x_T.same {own X text : String} {ic is : Nat} (hall : (Bundle.ownAtoms own ic X x_n2).all (fun c => x_kind (Bundle.ownAtoms own ic X x_n2) c && c.keepsCast) = true) {U V : State} (h1 : V.vm = U.vm) (h2 : V.heap = U.heap) (h : x_T own ic X is text U) : x_T own ic X is text V := by
  obtain ⟨h3, q, h4⟩ := h
  refine ⟨fun A a ha => ?_, q, vk_R.same (u := U) h1 h4⟩
  have h5 := List.all_eq_true.mp hall a ha
  simp only [Bool.and_eq_true] at h5
  exact x_heap (s := U) (U := V) (A := A) h1.symm (by rw [h2]; exact x_kept.refl _) (h3 A) a ha h5.1
theorem x_T.at {own X text : String} {ic is : Nat} (hall : (Bundle.ownAtoms own ic X x_n2).all (fun c => x_kind (Bundle.ownAtoms own ic X x_n2) c && c.keepsCast) = true) {s U : State} (h : x_T own ic X is text s) (hW : s.WarmedH U.vm) (hk : x_kept s.heap U.heap) : x_T own ic X is text U := by
  obtain ⟨h3, q, h4⟩ := h
  exact ⟨h3.move hall hW hk, q, vk_R.warm hW h4⟩
