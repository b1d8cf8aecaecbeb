/-! A method that may throw: its end, its contract. (The library's own laws are called: Stand.ctorThrowS ..) -/
/-- the state at a method's entry, with the heap as it stands now -/
def xs (s T : State) : State := { s with heap := T.heap, slotsUsed := T.slotsUsed }
def xr (R : Room) (cells slots : Nat) : Room := { frames := R.frames, cells := R.cells - cells, slots := R.slots - slots, locals := R.locals }
theorem x_rebase {p : Program} {l : Launch} {e : Env} {R : Room} {s : State} {m : MethodId} {args : Array Value} {below : List Frame} {meth : Method} {c : Code} {T : State} {locs : List Loc} {cells slots : Nat}
    (X : Stand p l e R s m args below meth c T locs cells slots) (hc : cells ≤ R.cells) (hs : slots ≤ R.slots) : Stand p l e (xr R cells slots) (xs s T) m args below meth c T [] 0 0 := by
  refine ⟨X.admits, X.cas, X.clock, X.frames, ?_, X.hears, X.method, X.code, X.here, X.tail, X.warmed, X.limits, X.bytes, ?_⟩
  · have h := X.room
    have h1 := X.heapSize
    have h2 := X.used
    have h3 : (xs s T).slotsTrue = true := X.book
    simp only [State.hasRoom, Bool.and_eq_true, decide_eq_true_eq] at h ⊢
    refine ⟨⟨⟨⟨h.1.1.1.1, h.1.1.1.2⟩, ?_⟩, ?_⟩, h3⟩
    · show T.heap.size + (R.cells - cells) ≤ _
      have := h.1.1.2
      omega
    · show T.slotsUsed + (R.slots - slots) ≤ _
      have := h.1.2
      omega
  · have hz : T.heap.toList.drop T.heap.size = [] := List.drop_eq_nil_of_le (by simp)
    refine ⟨X.same.1, Nat.le_refl _, Nat.le_refl _, ?_, ?_, fun a c h => ⟨c, h, rfl, rfl, fun _ _ => rfl⟩⟩
    · show T.slotsUsed = T.slotsUsed + ((T.heap.toList.drop T.heap.size).map _).sum
      rw [hz]
      rfl
    · show ((T.heap.toList.drop T.heap.size).map _).sum ≤ 0
      rw [hz]
      exact Nat.le_refl _
/-- where a method has thrown q, of E: what it says of the state, the new cells, the slots that it wrote -/
def xT (Xc : String → State → State → Prop) (s : State) (q : Addr) (t : State) (mc ms : Nat) (free : Addr → Prop) : Prop :=
  ∃ (E : String) (ce : Cell), Xc E s t ∧ t.heap[q]? = some ce ∧ ce.vm = .none ∧ s.vm.findClass E = some ce.cls ∧ s.WarmedH t.vm ∧ ∃ L, s.sameButNew ({ t with vm := s.vm } : State) L mc ms ∧ ∀ z ∈ L, free z.base
/-- how a method that may throw ends -/
def MQX (below : List Frame) (Qc : Array Value → State → Outcome → State → Prop) (Xc : String → State → State → Prop) (a : Array Value) (s : State) (mc ms : Nat) (free : Addr → Prop) : State → Prop := fun t =>
  MQ below Qc a s mc ms free t ∨ ∃ q : Addr, t.status = .running ∧ Ended t below (.threw q) ∧ xT Xc s q t mc ms free
/-- the contract of a method that returns or throws -/
def MetX (l : Launch) (y : MethodName) (ws : List Cond) (rm : Room) (Pc : Array Value → State → Prop) (Qc : Array Value → State → Outcome → State → Prop) (Xc : String → State → State → Prop) (mc ms : Nat) (free : Addr → Prop) : Prop :=
  MetFree l y (headSpec ws rm) Pc (fun _ _ _ _ _ => True) (fun a st o t => (Qc a st o t ∧ ∃ L, FrameEnd st o t L mc ms ∧ ∀ q ∈ L, free q.base) ∨ ∃ q : Addr, o = .threw q ∧ xT Xc st q t mc ms free)
/-- the table of exceptions of a method whose words say 'code' is empty -/
theorem x_table {p : Program} {l : Launch} {y : MethodName} {S : Spec} {cc : ByteArray} {maxL : Nat} {ret : Option FieldType} {e : Env} {s s₁ : State} {m : MethodId} {args : Array Value} {below : List Frame} {meth : Method} {c : Code}
    (B : BodyLoose p l y S cc maxL ret e s m args below meth c s₁) (h : (Cond.code y cc maxL ret).before args s = true) : ∀ x ∈ c.exceptionTable.toList, False := by
  obtain ⟨meth', c', h1, h2, -, -, -, -, h7, -⟩ := Cond.code_spec B.named h
  have e1 : meth = meth' := Option.some.inj (B.method.symm.trans h1)
  subst e1
  have hc : meth.code = some c := (Stand.of_body B).code
  have e2 : c = c' := Option.some.inj (hc.symm.trans h2)
  subst e2
  intro x hx
  have h8 : c.exceptionTable.toList = [] := by simpa using h7
  rw [h8] at hx
  cases hx
