/-- what stands of the heap behind a throw: all that stood when the exception was made -/
theorem x_old {s t : State} {k n : Nat} (h : s.sameButNew t [] k n) : s.heap.size ≤ t.heap.size ∧ ∀ q : Nat, q < s.heap.size → t.heap[q]? = s.heap[q]? := by
  refine ⟨h.2.1, fun q hq => ?_⟩
  obtain ⟨c, hc⟩ : ∃ c, s.heap[q]? = some c := ⟨s.heap[q], by simp [hq]⟩
  rw [hc]
  exact h.old_cell hc
/-- from the method's entry to the throw, over the state in between -/
theorem x_over {p : Program} {l : Launch} {e : Env} {R : Room} {s : State} {m : MethodId} {args : Array Value} {below : List Frame} {meth : Method} {c : Code} {T U : State} {locs : List Loc} {cells slots k n : Nat}
    (X : Stand p l e R s m args below meth c T locs cells slots) (h : (xs s T).sameButNew ({ U with vm := s.vm } : State) [] k n) : (T.setVm s.vm).sameButNew ({ U with vm := s.vm } : State) [] k n := by
  obtain ⟨h1, h2, h3, h4, h5, h6⟩ := h
  refine ⟨?_, h2, h3, h4, h5, h6⟩
  have a2 : T.setVm s.vm = ({ s.setFrames T.frames with heap := T.heap, slotsUsed := T.slotsUsed } : State) := X.same.1
  refine h1.trans ?_
  rw [a2]
  show ({ s.setFrames U.frames with heap := U.heap, slotsUsed := U.slotsUsed } : State) = ({ (s.setFrames T.frames).setFrames U.frames with heap := U.heap, slotsUsed := U.slotsUsed } : State)
  rw [State.setFrames_setFrames]
section XTHROW
variable {p : Program} {l : Launch} {e : Env} {R : Room} {s : State} {m : MethodId} {args : Array Value} {below : List Frame} {meth : Method} {c : Code} {H : Heap} {locs : List Loc} {cells slots : Nat} {Qc : Array Value → State → Outcome → State → Prop} {Xc : String → State → State → Prop} {mc ms : Nat} {free : Addr → Prop}
end XTHROW
