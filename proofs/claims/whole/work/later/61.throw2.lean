/-- what stands of the heap behind a throw: all that stood when the exception was made -/
theorem x_old {s t : State} {k n : Nat} (h : s.sameButNew t [] k n) : s.heap.size ≤ t.heap.size ∧ ∀ q : Nat, q < s.heap.size → t.heap[q]? = s.heap[q]? := by
  refine ⟨h.2.1, fun q hq => ?_⟩
  obtain ⟨c, hc⟩ : ∃ c, s.heap[q]? = some c := ⟨s.heap[q], by simp [hq]⟩
  rw [hc]
  exact h.old_cell hc
/-- from the method's entry to the throw, over the state in between -/
theorem x_over {p : Program} {l : Launch} {e : Env} {R : Room} {s : State} {m : MethodId} {args : Array Value} {below : List Frame} {meth : Method} {c : Code} {T U : State} {locs : List Loc} {cells slots k n : Nat}
    (X : Stand p l e R s m args below meth c T locs cells slots) (h : (xs s T).sameButNew ({ U with vm := s.vm } : State) [] k n) : (T.setVm s.vm).sameButNew ({ U with vm := s.vm } : State) [] k n := by
  obtain ⟨h1, h2, h3, h4, h5, h6⟩ := h
  refine ⟨?_, h2, h3, h4, h5, h6⟩
  have a2 : T.setVm s.vm = ({ s.setFrames T.frames with heap := T.heap, slotsUsed := T.slotsUsed } : State) := X.same.1
  refine h1.trans ?_
  rw [a2]
  show ({ s.setFrames U.frames with heap := U.heap, slotsUsed := U.slotsUsed } : State) = ({ (s.setFrames T.frames).setFrames U.frames with heap := U.heap, slotsUsed := U.slotsUsed } : State)
  rw [State.setFrames_setFrames]
section XTHROW
variable {p : Program} {l : Launch} {e : Env} {R : Room} {s : State} {m : MethodId} {args : Array Value} {below : List Frame} {meth : Method} {c : Code} {H : Heap} {locs : List Loc} {cells slots : Nat} {Qc : Array Value → State → Outcome → State → Prop} {Xc : String → State → State → Prop} {mc ms : Nat} {free : Addr → Prop}
set_option maxHeartbeats 1000000 in
/-- 'throw new X("text")', where no handler of the method's own covers it -/
theorem x_throwS {cc : ByteArray} (hexec : p.tables.exec = Jvm.exec) (hb : c.code = cc) (htr : e.platform.stackTraces = false) (hlocks : meth.locks = false)
    {own cls text : String} {names : List String} {ik is ic q0 : Nat}
    (hown : s.vm.findClass own = some m.cls) (hcls : Bundle.fit cls = true) (hnames : ∀ n ∈ names, Bundle.fit n = true)
    (hA : ∀ T : State, T.heap = H → ∀ a ∈ Bundle.ownAtoms own ic cls names, a.before args (xs s T) = true)
    (hB : ∀ T : State, T.heap = H → (Cond.classLink own ik cls).before args (xs s T) = true ∧ (Cond.instantiable cls 6).before args (xs s T) = true ∧ (Cond.initialized cls).before args (xs s T) = true)
    (hZ : vk_R own is text q0 s)
    {pc : Nat} {ls : Array Slot} {rest : List Value} (hsize : ls.size = c.maxLocals)
    (d0 : decode cc pc = .ok (.new ik, 3)) (d3 : decode cc (pc + 3) = .ok (.dup, 1)) (d4 : decode cc (pc + 4) = .ok (.ldc is, 2)) (d6 : decode cc (pc + 6) = .ok (.invokespecial ic, 3)) (d9 : decode cc (pc + 9) = .ok (.athrow, 1))
    (hout : ∀ x ∈ c.exceptionTable.toList, False)
    (hRf : names.length + 3 < R.frames) (hRl : (rest.map fun v => v.category).sum + 1 + (13 * (names.length + 1) + 42) ≤ R.locals) (hc : cells + 1 ≤ mc) (hc2 : mc ≤ R.cells) (hs : slots + 6 ≤ ms) (hs2 : ms ≤ R.slots)
    (hX : ∀ U : State, H.size ≤ U.heap.size → (∀ q : Nat, q < H.size → U.heap[q]? = H[q]?) → s.vm.Alike U.vm → Xc cls s U) (hf : ∀ z ∈ locs, free z.base) :
    W p l e R s m args below meth c H locs cells slots (MQX below Qc Xc args s mc ms free) (F0 m pc ls rest) := by
  intro T hT X
  have X' := x_rebase X (by omega) (by omega)
  obtain ⟨k1, k2, k3⟩ := hB T hT
  obtain ⟨cC, hfc, -⟩ := classAt_of k2
  have K : W p l e (xr R cells slots) (xs s T) m args below meth c T.heap [] 0 0 (fun U => U.status = .running ∧ Ended U below (.threw T.heap.size) ∧ (xs s T).WarmedH U.vm ∧ (xs s T).sameButNew ({ U with vm := s.vm } : State) [] 1 6 ∧ ∃ ce : Cell, U.heap[T.heap.size]? = some ce ∧ ce.vm = .none ∧ s.vm.findClass cls = some ce.cls) (F0 m pc ls rest) := by
    refine W.newcK (own := own) (C := cls) (n := 6) (R := xr R cells slots) (cells := 0) (slots := 0) (s := xs s T) (H := T.heap) (g := F0 m pc ls rest) hexec hb hown k1 k2 k3 rfl d0 (by show 0 + 1 ≤ R.cells - cells; omega) (by show 0 + 6 ≤ R.slots - slots; omega) hfc (h := T.heap.size) rfl (fun H1 kC hkC hcell hsz hold => ?_)
    refine W.eq (g2 := F0 m (pc + 3) ls (.ref T.heap.size :: rest)) rfl ?_
    refine lv_dup hexec hb d3 rfl ?_
    refine va_ldcS (own := own) (tx := text) (q := q0) hexec hb hown (vk_R.same (u := s) rfl hZ) d4 ?_
    intro T2 hT2 X2
    obtain ⟨U, st, hrun, hend, hW, hsame, ce, hce, hO⟩ := X2.ctorThrowS hexec htr (own := own) (cls := cls) (names := names) (ic := ic) hown hcls hnames (hA T hT) (fun x hx => by cases hx) hfc hkC (a := T.heap.size) (by rw [hT2]; exact hcell) (Nat.le_refl _) (msg := .ref q0) rfl
      (g := F0 m (pc + 4 + 2) ls (.ref q0 :: .ref T.heap.size :: .ref T.heap.size :: rest)) rfl hsize rfl rfl (rest := rest) rfl (by rw [hb]; exact d6) (by rw [hb]; exact d9) (fun x hx => (hout x hx).elim) hRf
      (by show 2 * 0 + (1 + (rest.map fun v => v.category).sum) + _ ≤ R.locals; omega)
    exact ⟨U, st, hrun, hend, hW, hsame, ce, hce, hO.vm, hO.cls⟩
  obtain ⟨U, st, hrun, hend, hW, hsame, ce, hce, hv, hcl⟩ := K T rfl X'
  obtain ⟨o1, o2⟩ := x_old hsame
  have hU : s.WarmedH U.vm := hW
  have h9 := X.same.trans (x_over X hsame)
  rw [List.append_nil] at h9
  exact ⟨U, st, Or.inr ⟨T.heap.size, hrun, hend, cls, ce, hX U (by rw [← hT]; exact o1) (fun q hq => by rw [← hT] at hq ⊢; exact o2 q hq) hU.alike, hce, hv, hcl, hU, locs, h9.mono (by omega) (by omega), hf⟩⟩
end XTHROW
