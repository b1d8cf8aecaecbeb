/-- behind a callee: the caller's state with the callee's heap and tables -/
def xb (U t : State) : State := ({ U with heap := t.heap, slotsUsed := t.slotsUsed } : State).setVm t.vm
section XCALL
variable {p : Program} {l : Launch} {e : Env} {R : Room} {s : State} {m : MethodId} {args : Array Value} {below : List Frame} {meth : Method} {c : Code} {U : State} {locs : List Loc} {cells slots : Nat}
/-- the caller stands behind a callee that left the heap and the tables so -/
theorem x_stand (X : Stand p l e R s m args below meth c U locs cells slots) {t : State} {L : List Loc} {k n : Nat} (hW : U.WarmedH t.vm) (hsame : U.sameButNew ({ U with heap := t.heap, slotsUsed := t.slotsUsed } : State) L k n) :
    Stand p l e R s m args below meth c (xb U t) (locs ++ L) (cells + k) (slots + n) :=
  ⟨X.admits, X.cas, X.clock, X.frames, X.room, X.hears, X.method, X.code, (X.here.setHeapUsed t.heap t.slotsUsed).setVm hW.alike, X.tail, State.WarmedH.trans X.warmed hW, X.limits, X.bytes, X.same.trans (hsame.setVm s.vm)⟩
end XCALL
section XCALLT
variable {p : Program} {l : Launch} {e : Env} {R : Room} {s : State} {m : MethodId} {args : Array Value} {below : List Frame} {meth : Method} {c : Code} {U : State} {locs : List Loc} {cells slots : Nat}
/-- a callee whose contract says that it throws: it has thrown, over the caller's frame -/
theorem x_callT (X : Stand p l e R s m args below meth c U locs cells slots) {y : MethodName} {ws : List Cond} {rm : Room} {Pc : Array Value → State → Prop} {Xc : String → State → State → Prop} {mc ms : Nat} {free : Addr → Prop}
    (hM : MetX l y ws rm Pc (fun _ _ _ _ => False) Xc mc ms free) {bytes : ByteArray} {maxL len : Nat} {ret : Option FieldType} {g : JFrame} {ig : Instr} {mk : MethodId} {a : Array Value}
    (hg : g.method = m) (hsize : g.locals.size = c.maxLocals) (hdg : decode c.code g.pc = .ok (ig, len)) (hW : 2 * g.monitorRoom + (g.stack.map fun v => v.category).sum ≤ 8) (hn : U.methodNamed? y = some mk)
    (hws : ∀ w ∈ ws, w.before a U = true) (hcode : (Cond.code y bytes maxL ret).before a U = true) (hini : (Cond.initialized y.cls).before a U = true)
    (hrc : rm.cells = mc) (hrs : rm.slots = ms) (hfr : rm.frames + 1 ≤ R.frames) (hlo : 8 + (maxL + 11) + rm.locals ≤ R.locals) (hc : cells + mc ≤ R.cells) (hs : slots + ms ≤ R.slots) (hP : Pc a (U.calling g mk a)) :
    ∃ (q : Addr) (t : State) (L : List Loc), Stand p l e R s m args below meth c (xb U t) (locs ++ L) (cells + mc) (slots + ms) ∧
      (∃ (E : String) (ce : Cell), Xc E (U.calling g mk a) t ∧ t.heap[q]? = some ce ∧ ce.vm = .none ∧ U.vm.findClass E = some ce.cls) ∧ (∀ z ∈ L, free z.base) ∧
      Steps p.tables e below (doInvoke e (U.setTop g) [] mk a).1 (((xb U t).setTop g).pushFrame (.throwing q)) := by
  have h : At U g.method c below := by rw [hg]; exact X.here
  obtain ⟨methY, cY, hmY, hcY, -, hlY, -, -, -, -⟩ := Cond.code_spec hn hcode
  obtain ⟨kY, hkY, -⟩ := className_of_methodNamed hn
  have hinitY : kY.init = .initialized := Cond.initialized_spec (findClass_of_methodNamed hn) hkY hini
  have happ : (headSpec ws rm).appliesLoose y e.platform (U.calling g mk a) = true :=
    Spec.appliesLoose_calling (g := g) h hdg hn hkY hinitY (X.room_calling (g := g) (R' := rm) hsize hmY hcY hfr (by rw [hlY]; omega) (by omega) (by omega)) (atoms_intro hws)
  obtain ⟨g₀, hg0⟩ := Option.isSome_iff_exists.mp h.top
  obtain ⟨r, hr⟩ := State.topJava?_eq_some.mp hg0
  obtain ⟨mid, hmid⟩ := h.above
  have hfrm : (U.setTop g).frames = (.java g :: mid) ++ below := by rw [State.frames_setTop' g h.top, hmid]; rfl
  obtain ⟨o, s₂, hsteps, -, hend, hq⟩ := Steps.callFree hM p X.admits X.cas X.clock (acts := []) hfrm happ hP trivial
  rcases hq with ⟨hF, -⟩ | ⟨q, rfl, E, ce, hx, hce, hv, hcl, hW₂, L, hsame, hL⟩
  · exact hF.elim
  · have hW' : U.WarmedH s₂.vm := hW₂
    obtain ⟨e2, q2, q3, q4, q5, q6⟩ := hsame
    have hf₂ : s₂.frames = .throwing q :: .java g :: U.frames.tail := by
      have := hend
      rw [State.frames_setTop' g h.top] at this
      exact this
    obtain ⟨tt, htt, -⟩ := State.frames_cons hr
    have hsU : U.sameButNew ({ U with heap := s₂.heap, slotsUsed := s₂.slotsUsed } : State) L mc ms := by
      refine ⟨?_, q2, q3, q4, q5, q6⟩
      show ({ U with heap := s₂.heap, slotsUsed := s₂.slotsUsed } : State) = { U.setFrames U.frames with heap := s₂.heap, slotsUsed := s₂.slotsUsed }
      rw [State.setFrames_self htt]
    have hs₂ : s₂ = ((xb U s₂).setTop g).pushFrame (.throwing q) := by
      have e4 : ({ s₂ with vm := U.vm } : State) = ({ (U.calling g mk a).setFrames s₂.frames with heap := s₂.heap, slotsUsed := s₂.slotsUsed } : State) := e2
      rw [State.calling_eq h.top, State.setFrames_setFrames, hf₂] at e4
      have e3 : s₂ = ({ s₂ with vm := U.vm } : State).setVm s₂.vm := rfl
      have hr2 : (xb U s₂).frames = .java g₀ :: r := hr
      have e5 : ((xb U s₂).setTop g).pushFrame (.throwing q) = (xb U s₂).setFrames (.throwing q :: .java g :: r) := by
        rw [State.pushFrame, State.frames_setTop _ hr2, State.setTop_of_frames _ hr2, State.setFrames_setFrames]
      rw [hr] at e4
      rw [e5]
      refine e3.trans ?_
      rw [e4]
      rfl
    refine ⟨q, s₂, L, x_stand X hW' hsU, ⟨E, ce, hx, hce, hv, hcl⟩, hL, ?_⟩
    rw [← hs₂]
    exact hsteps
end XCALLT
