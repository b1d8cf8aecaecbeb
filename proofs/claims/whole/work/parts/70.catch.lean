/-! Catching: the search through a method's own table, cold or warm; a contract of a method with handlers; a call of one. -/
section XGOW
variable {e : Env} {s : State} {f : JFrame} {a : Addr}
theorem x_go_cold {E : CtlPost} {d : Bool} {acts : List Action} {Q : Handler → Pre} {x : ExceptionTableEntry} {t : List ExceptionTableEntry} {c : ClassId} {cell : Cell} {vm' : Vm} (hx : covers x f.pc = true) (h0 : x.catchType ≠ 0)
    (hg : (Jvm.resolveClass f.method.cls x.catchType).Gives e.toSetting s.vm (.ok c) vm') (hsz : vm'.classes.size ≤ s.vm.classes.size)
    (hcell : s.heap[a]? = some cell) (hobj : ∀ k, cell.vm ≠ .statics k) (hk : ∃ k, vm'.classes[cell.cls]? = some k) (hc : ∃ k, vm'.classes[c]? = some k) :
    Sem.wp (findHandler.go f a (x :: t)) Q E e d acts s ↔ if vm'.assignable cell.cls c = true then Q (.found x.handlerPc) d acts (s.setVm vm') else Sem.wp (findHandler.go f a t) Q E e d acts (s.setVm vm') := by
  simp only [covers] at hx
  obtain ⟨ha, ht⟩ := hg.op (op := VmOp.resolveClass f.method.cls x.catchType) rfl
  cases hfit : vm'.assignable cell.cls c <;>
    simp [findHandler.go, hx, h0, ha, ht, hsz, hcell, hobj, hk, hc, hfit, VmOp.dirties, VmOp.acts]
/-- the search gives h, and leaves the tables vm' -/
def GoW (e : Env) (s : State) (f : JFrame) (a : Addr) (L : List ExceptionTableEntry) (h : Handler) (vm' : Vm) : Prop :=
  ∀ (Q : Handler → Pre) (E : CtlPost) (d : Bool) (acts : List Action), Sem.wp (findHandler.go f a L) Q E e d acts s ↔ Q h d acts (s.setVm vm')
theorem x_stepCatch {r : List Frame} {pc : Nat} {vm' : Vm} {meth : Method} {code : Code} (hm : s.vm.method? f.method = some meth) (hc : meth.code = some code) (hfind : GoW e s f a code.exceptionTable.toList (.found pc) vm') :
    (stepThrowing e s a (.java f :: r)).Is ((s.setVm vm').setFrames (.java { f with pc := pc, stack := [.ref a] } :: r)) [] := by
  simp only [stepThrowing, searchFrame, vmDo]
  generalize hr : Sem.go _ e false [] s = res
  obtain ⟨as, rfl, ha⟩ := Sem.eq_ok_of hr (a := Handler.found pc) (s' := s.setVm vm') (acts' := []) (by simp [W.findHandler_eq hm hc, hfind _ _ _ _])
  exact ⟨rfl, ha⟩
theorem x_stepsCaught {tb : Tables} {target : State} {g : JFrame} {c : Code} {below : List Frame} (h : At s g.method c below) {meth : Method} (hm : s.vm.method? g.method = some meth) (hc : meth.code = some c) {pc : Nat} {vm' : Vm} (hfind : GoW e ((s.setTop g).pushFrame (.throwing a)) g a c.exceptionTable.toList (.found pc) vm')
    (hrest : Steps tb e below ((s.setVm vm').setTop { g with pc := pc, stack := [.ref a] }) target) :
    Steps tb e below ((s.setTop g).pushFrame (.throwing a)) target := by
  obtain ⟨hgo, hw⟩ := h.throwing a
  refine Steps.head hgo hw ?_
  rw [stepThread_throwing (frames_entered h.top _), (x_stepCatch (s := (s.setTop g).pushFrame (.throwing a)) (meth := meth) (code := c) (by simpa [State.pushFrame, State.setFrames] using hm) hc hfind).1]
  obtain ⟨g₀, hg⟩ := Option.isSome_iff_exists.mp h.top
  obtain ⟨r, hr⟩ := State.topJava?_eq_some.mp hg
  have hr2 : (s.setVm vm').frames = .java g₀ :: r := hr
  rw [State.setTop_of_frames _ hr2] at hrest
  have e1 : (((s.setTop g).pushFrame (.throwing a)).setVm vm').setFrames (.java { g with pc := pc, stack := [.ref a] } :: s.frames.tail) = (s.setVm vm').setFrames (.java { g with pc := pc, stack := [.ref a] } :: r) := by
    rw [State.pushFrame, State.setTop_of_frames _ hr, hr]
    show ((s.setFrames _).setFrames _ |>.setVm vm').setFrames _ = _
    rw [State.setFrames_setFrames]
    show ((s.setVm vm').setFrames _).setFrames _ = _
    rw [State.setFrames_setFrames]
    rfl
  rw [e1]
  exact hrest
end XGOW
theorem x_refl (vm : Vm) (c : ClassId) : vm.assignable c c = true := by
  show vm.assignableAux (255 + 1) c c = true
  rw [Vm.assignableAux]
  simp
section XCAT
variable {p : Program} {l : Launch} {e : Env} {R : Room} {s : State} {m : MethodId} {args : Array Value} {below : List Frame} {meth : Method} {c : Code} {locs : List Loc} {cells slots : Nat}
/-- the entries of a table that cover the place, of classes that the object is not of -/
def x_miss (own : String) (args : Array Value) (s : State) (k : ClassId) (pc : Nat) (x : ExceptionTableEntry) : Prop :=
  covers x pc = true ∧ x.catchType ≠ 0 ∧ ∃ (n : String) (cn : ClassId), (Cond.classLink own x.catchType n).before args s = true ∧ s.vm.findClass n = some cn ∧ s.vm.assignable k cn = false
/-- one entry of a table is resolved -/
theorem x_resolve {T : State} (X : Stand p l e R s m args below meth c T locs cells slots) {own n : String} {index : Nat} {cn : ClassId} (hown : s.vm.findClass own = some m.cls) (hl : (Cond.classLink own index n).before args s = true) (hn : s.vm.findClass n = some cn) :
    ∃ vm', s.WarmedH vm' ∧ (Jvm.resolveClass m.cls index).Gives e.toSetting T.vm (.ok cn) vm' ∧ vm'.classes.size ≤ T.vm.classes.size ∧ ∃ k, vm'.classes[cn]? = some k := by
  have hpl : e.platform.magicAccessors = ({} : Platform).magicAccessors := by rw [X.admits.platform]
  obtain ⟨c', hc', hcl⟩ := Cond.classLink_spec hown hl e.platform hpl
  cases hn.symm.trans hc'
  obtain ⟨dk, _, _, kt, hd, _, _, _, _, hkt, _, hopen⟩ := hcl.here
  have hcl₀ := X.warmed.classLinks hcl
  have hW' : s.WarmedH (T.vm.noted m.cls index (.cls cn)) := X.warmed.noted hd hopen (State.rightAt_cls hcl)
  obtain ⟨kt', hkt', -⟩ := hW'.alike.2.2 _ _ hkt
  exact ⟨_, hW', resolveClass_links e.toSetting hcl₀, by no_record, kt', hkt'⟩
theorem x_search {own : String} (hown : s.vm.findClass own = some m.cls) {q : Addr} {ce : Cell} (hv : ce.vm = .none) {kc : Class} (hkc : s.vm.classes[ce.cls]? = some kc) {g : JFrame} (hg : g.method = m)
    {x : ExceptionTableEntry} {n : String} {rest : List ExceptionTableEntry} {cn : ClassId} (hx : covers x g.pc = true) (h0 : x.catchType ≠ 0) (hl : (Cond.classLink own x.catchType n).before args s = true) (hn : s.vm.findClass n = some cn) (hfit : s.vm.assignable ce.cls cn = true) :
    ∀ (pre : List ExceptionTableEntry), (∀ y ∈ pre, x_miss own args s ce.cls g.pc y) → ∀ (T : State), Stand p l e R s m args below meth c T locs cells slots → T.heap[q]? = some ce →
      ∃ vm', s.WarmedH vm' ∧ GoW e ((T.setTop g).pushFrame (.throwing q)) g q (pre ++ x :: rest) (.found x.handlerPc) vm' := by
  have hst : ∀ k, ce.vm ≠ .statics k := fun k h => by rw [hv] at h; cases h
  intro pre
  induction pre with
  | nil =>
    intro _ T X hce
    obtain ⟨vm', hW', hgv, hsz, hk'⟩ := x_resolve X hown hl hn
    obtain ⟨ks', hks', -⟩ := hW'.alike.2.2 _ _ hkc
    refine ⟨vm', hW', fun Q E d acts => ?_⟩
    have h := x_go_cold (e := e) (s := (T.setTop g).pushFrame (.throwing q)) (f := g) (a := q) (E := E) (d := d) (acts := acts) (Q := Q) (x := x) (t := rest) (c := cn) (cell := ce) (vm' := vm') hx h0 (by rw [Stand.throwing_vm, hg]; exact hgv) (by rw [Stand.throwing_vm]; exact hsz) (by rw [Stand.throwing_heap]; exact hce) hst ⟨ks', hks'⟩ hk'
    rw [if_pos (by rw [hW'.alike.assignable]; exact hfit)] at h
    exact h
  | cons y pre ih =>
    intro hpre T X hce
    obtain ⟨hy, hy0, n', cn', hl', hn', hno⟩ := hpre y List.mem_cons_self
    obtain ⟨vm', hW', hgv, hsz, hk'⟩ := x_resolve X hown hl' hn'
    obtain ⟨ks', hks', -⟩ := hW'.alike.2.2 _ _ hkc
    obtain ⟨vm2, hW2, hgo⟩ := ih (fun z hz => hpre z (List.mem_cons_of_mem _ hz)) (T.setVm vm') (X.noted hW') hce
    refine ⟨vm2, hW2, fun Q E d acts => ?_⟩
    have h := x_go_cold (e := e) (s := (T.setTop g).pushFrame (.throwing q)) (f := g) (a := q) (E := E) (d := d) (acts := acts) (Q := Q) (x := y) (t := pre ++ x :: rest) (c := cn') (cell := ce) (vm' := vm') hy hy0 (by rw [Stand.throwing_vm, hg]; exact hgv) (by rw [Stand.throwing_vm]; exact hsz) (by rw [Stand.throwing_heap]; exact hce) hst ⟨ks', hks'⟩ hk'
    rw [if_neg (by rw [hW'.alike.assignable, hno]; decide)] at h
    have e1 : ((T.setTop g).pushFrame (.throwing q)).setVm vm' = ((T.setVm vm').setTop g).pushFrame (.throwing q) := rfl
    rw [e1] at h
    exact h.trans (hgo Q E d acts)
/-- what is thrown over the frame g is caught there -/
theorem x_caught {T : State} (X : Stand p l e R s m args below meth c T locs cells slots) {own : String} (hown : s.vm.findClass own = some m.cls) {q : Addr} {ce : Cell} (hce : T.heap[q]? = some ce) (hv : ce.vm = .none) {kc : Class} (hkc : s.vm.classes[ce.cls]? = some kc) {g : JFrame} (hg : g.method = m)
    {x : ExceptionTableEntry} {n : String} {pre rest : List ExceptionTableEntry} {cn : ClassId} (htab : c.exceptionTable.toList = pre ++ x :: rest) (hpre : ∀ y ∈ pre, x_miss own args s ce.cls g.pc y) (hx : covers x g.pc = true) (h0 : x.catchType ≠ 0) (hl : (Cond.classLink own x.catchType n).before args s = true) (hn : s.vm.findClass n = some cn) (hfit : s.vm.assignable ce.cls cn = true) :
    ∃ vm', Stand p l e R s m args below meth c (T.setVm vm') locs cells slots ∧ ∀ target, Steps p.tables e below ((T.setVm vm').setTop { g with pc := x.handlerPc, stack := [.ref q] }) target → Steps p.tables e below ((T.setTop g).pushFrame (.throwing q)) target := by
  obtain ⟨vm', hW', hgo⟩ := x_search (meth := meth) (c := c) (rest := rest) hown hv hkc hg hx h0 hl hn hfit pre hpre T X hce
  refine ⟨vm', X.noted hW', fun target h => ?_⟩
  exact x_stepsCaught (s := T) (g := g) (c := c) (meth := meth) (by rw [hg]; exact X.here) (by rw [hg]; exact X.method') X.code (by rw [htab]; exact hgo) h
end XCAT
section XRUN
variable {p : Program} {l : Launch} {e : Env} {R : Room} {s : State} {m : MethodId} {args : Array Value} {below : List Frame} {meth : Method} {c : Code} {H : Heap} {locs : List Loc} {cells slots : Nat}
/-- 'invokestatic' of a method with handlers that returns -/
theorem x_runSW {y : MethodName} {bytes cc : ByteArray} {maxL nL mc ms n index : Nat} {ret : Option FieldType} {ws : List Cond} {rm : Room} {Pc : Array Value → State → Prop} {Qc : Array Value → State → Outcome → State → Prop} {free : Addr → Prop} {Ts : List Cond} {own : String} {As rest : List Value} {g : JFrame} {handlers : List (Nat × Nat × Nat × Nat)}
    (S : CallFix p m c cc nL s args Ts own) (hM : Met l y ws rm Pc Qc mc ms free) (hrc : rm.cells = mc) (hrs : rm.slots = ms) (hfr : rm.frames + 1 ≤ R.frames) (hlo : 8 + (maxL + 11) + rm.locals ≤ R.locals) (hws : ∀ w ∈ ws, ∀ (a' : Array Value) (U : State), s.WarmedH U.vm → w.before a' U = true) (hcw : Cond.codeWith y bytes maxL ret handlers ∈ ws)
    (hini : (Cond.initialized y.cls).before args s = true) (hy : y.cls ≠ "java/lang/invoke/MethodHandle" ∧ y.cls ≠ "java/lang/invoke/VarHandle") (hlen : ∀ sig, parseMethodDescriptor y.desc = some sig → n = sig.parameters.length) (hl : (Cond.methodLink own index y).before args s = true) (hstt : (Cond.static y).before args s = true) (hp : PreS s H Pc As)
    (hg : g.method = m) (hn : As.length = n) (hsize : g.locals.size = nL) (hstack : g.stack = As.reverse ++ rest) (hW : 2 * g.monitorRoom + (rest.map fun v => v.category).sum ≤ 8) (hdg : decode cc g.pc = .ok (.invokestatic index, 3)) (hf : cells + mc ≤ R.cells ∧ slots + ms ≤ R.slots) :
    va_Run p l e R s m args below meth c H locs cells slots mc ms g rest (Qc As.toArray) (free) := by
  have hK : Back l R p e below s args y 3 8 (PreOf R mc ms Pc) (PostOf Qc mc ms free) := by
    refine Back.of_freeWith (handlers := handlers) (S := headSpec ws rm) (P := Pc) (K := fun _ _ _ _ _ => True) (Q := fun a st o t => Qc a st o t ∧ ∃ L, FrameEnd st o t L mc ms ∧ ∀ q ∈ L, free q.base) (bytes := bytes) (maxL := maxL) (ret := ret)
      (E := fun a st o t L k n => k = mc ∧ n = ms ∧ ∀ q ∈ L, free q.base) hM hfr hlo ?_ ?_ (fun _ _ _ _ _ _ _ _ _ => trivial) ?_ ?_
    · intro m meth c A a X hpp
      exact ⟨atoms_intro fun w hw => hws w hw _ _ X.warmed, hws _ hcw _ _ X.warmed, word_at X.warmed (Or.inl (by first | rfl | simp [Cond.onTables, Cond.keeps, Cond.steady])) hini, by rw [show (headSpec ws rm).room.cells = mc from hrc]; exact hpp.1, by rw [show (headSpec ws rm).room.slots = ms from hrs]; exact hpp.2.1⟩
    · intro m meth c A a g mk X hpp
      exact hp.1 _ _ _ _ hpp.2.2
    · intro a st o t ⟨hq, L, hF, hL⟩
      exact ⟨L, mc, ms, hF, rfl, rfl, hL⟩
    · intro m meth c A a g mk v t L k n X hpp hq hF ⟨e1, e2, hL⟩
      subst e1; subst e2
      exact ⟨g, mk, t, L, rfl, rfl, hq.1, rfl, hL, rfl, rfl⟩
  obtain ⟨hx, hb, hml, ho, -⟩ := S
  intro T hT X
  obtain ⟨mk, methM, cM, hnamed, hmethM, -, -, -, -, -, -, hsigM⟩ := Cond.codeWith_spec (hws _ hcw args s (State.WarmedH.refl s))
  have hstatic : methM.isStatic = true := Cond.static_spec hnamed hmethM hstt
  obtain ⟨kP, hkP, -⟩ := className_of_methodNamed hnamed
  have hinitP : kP.init = .initialized := Cond.initialized_spec (findClass_of_methodNamed hnamed) hkP hini
  obtain ⟨vm₁, X₁, hstep₁⟩ := X.invokestatic hx ho hl hnamed hmethM hstatic hkP hinitP hy (g := g) hg (argsL := As) (rest := rest) (hn.trans (hlen _ hsigM)) hstack (by rw [hb]; exact hdg)
  obtain ⟨v, ⟨U', l2, c2, s2⟩, X', ⟨g', mk', t, L, e1, e2, hq, h1, hL, h2, h3⟩, hsteps⟩ := hK m meth c ⟨T.setVm vm₁, locs, cells, slots⟩ { g with stack := rest } (.invokestatic index) mk As.toArray X₁ hg (hsize.trans hml.symm) (by rw [hb]; exact hdg) hW (X₁.named hnamed) ⟨hf.1, hf.2, hp.2 (T.setVm vm₁) hT X₁.warmed⟩
  dsimp only [Pt.U, Pt.locs, Pt.cells, Pt.slots] at X' e1 e2 h1 h2 h3 hsteps
  subst h1; subst h2; subst h3
  exact ⟨v, (T.setVm vm₁).calling g' mk' As.toArray, t, U', L, hT, X', hL, e1, e2, hq, fun target h => hstep₁ _ fun acts => by rw [doInvoke_state]; exact hsteps.trans h⟩
/-- a callee that throws, called by invokevirtual where a handler of the method's own takes it -/
theorem x_catV {y : MethodName} {bytes cc : ByteArray} {maxL nL mc ms n index : Nat} {ret : Option FieldType} {ws : List Cond} {rm : Room} {Pc : Array Value → State → Prop} {Xd : String → State → State → Prop} {free : Addr → Prop} {Ts : List Cond} {own C : String} {b : Addr} {As rest : List Value} {pc : Nat} {ls : Array Slot} {st0 : List Value} {Q : State → Prop}
    (S : CallFix p m c cc nL s args Ts own) (hM : MetX l y ws rm Pc (fun _ _ _ _ => False) Xd mc ms free) (cw : CallW R s args own C index y bytes maxL ret ws rm mc ms n) (hp : PreV s H C b Pc As)
    (hn : As.length = n) (hsize : ls.size = nL) (hstack : st0 = As.reverse ++ .ref b :: rest) (hW : (rest.map fun v => v.category).sum ≤ 8) (hdg : decode cc pc = .ok (.invokevirtual index, 3)) (hf : cells + mc ≤ R.cells ∧ slots + ms ≤ R.slots)
    {E0 : String} (hE : ∀ E st t, Xd E st t → E = E0) (hk0 : ∃ k0, s.vm.findClass E0 = some k0) {x : ExceptionTableEntry} {pre tl : List ExceptionTableEntry} {nm : String} {cn : ClassId} (htab : c.exceptionTable.toList = pre ++ x :: tl) (hpre : ∀ k0, s.vm.findClass E0 = some k0 → ∀ z ∈ pre, x_miss own args s k0 pc z) (hx : covers x pc = true) (h0 : x.catchType ≠ 0) (hlk : (Cond.classLink own x.catchType nm).before args s = true) (hnm : s.vm.findClass nm = some cn) (hfit : ∀ k0, s.vm.findClass E0 = some k0 → s.vm.assignable k0 cn = true)
    (kk : ∀ (q : Addr) (st t : State) (L : List Loc), st.heap = H → s.vm.Alike st.vm → Xd E0 st t → s.vm.Alike t.vm → (∀ z ∈ L, free z.base) → W p l e R s m args below meth c t.heap (locs ++ L) (cells + mc) (slots + ms) Q (F0 m x.handlerPc ls [.ref q])) :
    W p l e R s m args below meth c H locs cells slots Q (F0 m pc ls st0) := by
  intro T hT X
  obtain ⟨⟨hrc, hrs, hfrm, hlo, hws, hcw, hcode, hini, hy, hlen, hl⟩, hin, hse⟩ := cw
  obtain ⟨hxx, hb, hml, ho, -⟩ := S
  obtain ⟨hbl, hrecv, hPc⟩ := hp
  obtain ⟨mk, vm₁, hW₁, X₁, hnm1, hgo⟩ := x_goV X hxx ho hl hin hse hcode hy (b := b) (by rw [hT]; exact hrecv) (g := F0 m pc ls st0) rfl (argsL := As) (rest := rest) (fun sig h => hn.trans (hlen sig h)) hstack (by rw [hb]; exact hdg)
  obtain ⟨q, t, L, X₂, ⟨E, ce, hxd, hce, hv, hcl⟩, hL, hst⟩ := x_callT X₁ hM (bytes := bytes) (maxL := maxL) (ret := ret) (len := 3) (g := F0 m pc ls rest) (ig := .invokevirtual index) (mk := mk) (a := (Value.ref b :: As).toArray)
    rfl (hsize.trans hml.symm) (by rw [hb]; exact hdg) (by show 2 * 0 + (rest.map fun v => v.category).sum ≤ 8; omega) hnm1 (fun w hw => hws w hw _ _ hW₁) (hws _ hcw _ _ hW₁) (word_at hW₁ (Or.inl (by first | rfl | simp [Cond.onTables, Cond.keeps, Cond.steady])) hini) hrc hrs hfrm hlo hf.1 hf.2
    (hbl _ _ _ _ (hPc (T.setVm vm₁) hT hW₁))
  have hEE := hE _ _ _ hxd
  subst hEE
  have hcl' : s.vm.findClass E = some ce.cls := by
    have h9 : vm₁.findClass E = some ce.cls := hcl
    rw [hW₁.alike.findClass] at h9
    exact h9
  obtain ⟨kc, hkc⟩ := Vm.classAt_of_findClass hcl'
  obtain ⟨vm2, X₃, hgo3⟩ := x_caught X₂ ho (q := q) (ce := ce) hce hv hkc (g := F0 m pc ls rest) rfl htab (hpre _ hcl') hx h0 hlk hnm (hfit _ hcl')
  obtain ⟨u, hu, hQ⟩ := kk q _ t L (by rw [← hT]; rfl) hW₁.alike hxd (show s.vm.Alike (xb (T.setVm vm₁) t).vm from X₂.warmed.alike) hL ((xb (T.setVm vm₁) t).setVm vm2) rfl X₃
  exact ⟨u, hgo _ (hst.trans (hgo3 _ hu)), hQ⟩
end XRUN
