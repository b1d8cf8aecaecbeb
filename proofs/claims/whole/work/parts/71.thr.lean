/-! What a throw wants of the tables and of Throwable's statics, and how it is carried along. -/
abbrev x_n2 : List String := ["java/lang/RuntimeException", "java/lang/Exception"]
def x_Thr (own : String) (ic : Nat) (X : String) (U : State) : Prop := ∀ (A : Array Value), ∀ a ∈ Bundle.ownAtoms own ic X x_n2, a.before A U = true
/-- statics' cells stand as they stood -/
def x_kept (H H' : Heap) : Prop := ∀ (q : Nat) (cell : Cell), H[q]? = some cell → cell.vm.isStatics = true → H'[q]? = some cell
def x_kind (L : List Cond) : Cond → Bool
  | .laysStatic .. => true
  | .isRef (.static O f d) => L.contains (.laysStatic O f d)
  | c => c.onTables
theorem x_allA : (Bundle.ownAtoms "VolumeTurner" 137 "java/lang/IllegalArgumentException" x_n2).all (fun c => x_kind (Bundle.ownAtoms "VolumeTurner" 137 "java/lang/IllegalArgumentException" x_n2) c && c.keepsCast) = true := by decide +kernel
theorem x_allS : (Bundle.ownAtoms "VolumeTurner" 314 "java/lang/IllegalStateException" x_n2).all (fun c => x_kind (Bundle.ownAtoms "VolumeTurner" 314 "java/lang/IllegalStateException" x_n2) c && c.keepsCast) = true := by decide +kernel
theorem x_allI : (Bundle.ownAtoms "VolumeTurner" 341 "java/lang/IndexOutOfBoundsException" x_n2).all (fun c => x_kind (Bundle.ownAtoms "VolumeTurner" 341 "java/lang/IndexOutOfBoundsException" x_n2) c && c.keepsCast) = true := by decide +kernel
theorem x_allU : (Bundle.ownAtoms "VolumeTurner" 252 "java/lang/UnsupportedOperationException" x_n2).all (fun c => x_kind (Bundle.ownAtoms "VolumeTurner" 252 "java/lang/UnsupportedOperationException" x_n2) c && c.keepsCast) = true := by decide +kernel
/-- a world stands where all that stood still stands -/
theorem x_Pmono {D : va_G} {ws : va_W} {H H' : Heap} (hP : va_P D classes ws H) (h : ∀ q : Nat, q < H.size → H'[q]? = H[q]?) : va_P D classes ws H' := by
  intro k q hk
  have h1 := hP k q hk
  unfold va_at at h1 ⊢
  obtain ⟨a, en⟩ := q
  cases en with
  | inl x =>
    have h2 : H[a]? = some (vp_cell x.1 x.2) := h1
    show H'[a]? = some (vp_cell x.1 x.2)
    rw [h a (Array.getElem?_eq_some_iff.mp h2).1]
    exact h2
  | inr o =>
    obtain ⟨r, hr, cell, g1, g2⟩ := h1
    have g1' : H[a]? = some cell := g1
    exact ⟨r, hr, cell, by show H'[a]? = some cell; rw [h a (Array.getElem?_eq_some_iff.mp g1').1]; exact g1', g2⟩
/-- 'ldc_w' of a text that stands -/
theorem x_ldcW {p : Program} {l : Launch} {e : Env} {R : Room} {s : State} {m : MethodId} {args : Array Value} {below : List Frame} {meth : Method} {c : Code} {H : Heap} {locs : List Loc} {cells slots : Nat} {Q : State → Prop} {cc : ByteArray} {pc : Nat} {ls : Array Slot} {rest : List Value} (hexec : p.tables.exec = Jvm.exec) (hb : c.code = cc) {own tx : String} {index q : Nat} (hown : s.vm.findClass own = some m.cls) (hZ : vk_R own index tx q s) (hdg : decode cc pc = .ok (.ldc_w index, 3))
    (k : W p l e R s m args below meth c H locs cells slots Q (F0 m (pc + 3) ls (.ref q :: rest))) : W p l e R s m args below meth c H locs cells slots Q (F0 m pc ls rest) := by
  intro T hT X
  obtain ⟨t, a1, b1⟩ := k T hT X
  obtain ⟨k1, cf, i, a', hk, hcf, hcp, -, hr, hev'⟩ := Cond.stringRef_spec hown hZ.1
  cases hZ.2.symm.trans hev'
  obtain ⟨k', hk', he⟩ := X.warmed.alike.2.2 _ _ hk
  have hr' : k'.resolved[index]? = some (some (.string q)) := by
    rcases X.warmed.entry hk hk' index with h | ⟨h, -⟩
    · rw [h]; exact hr
    · rw [hr] at h; cases h
  refine ⟨t, ?_, b1⟩
  jvm_step X.here [hexec, hb, hdg, ldc_w.wp_string (e := e) (s := T) (f := F0 m pc ls rest) X.here.top hk' (by rw [he]; exact hcf) hcp hr']
  exact a1
theorem x_F {A : Nat → Prop} {s U : State} {H : Heap} {locs : List Loc} (hS : va_S A s.heap H locs) (h0 : H.size ≤ U.heap.size) (h : ∀ q : Nat, q < H.size → U.heap[q]? = H[q]?) : va_F A s U := ⟨Nat.le_trans hS.1 h0, fun q h1 h2 => (h q (Nat.lt_of_lt_of_le h1 hS.1)).trans (hS.2.1 q h1 h2)⟩
/-- where a method throws the exception E: its world then -/
abbrev x_Q (E0 : String) (A : Nat → Prop) (B : State → Prop) (E : String) (st t : State) : Prop := E = E0 ∧ va_F A st t ∧ B t
section XTHROW2
variable {p : Program} {l : Launch} {e : Env} {R : Room} {s : State} {m : MethodId} {args : Array Value} {below : List Frame} {meth : Method} {c : Code} {H : Heap} {locs : List Loc} {cells slots : Nat} {Qc : Array Value → State → Outcome → State → Prop} {mc ms : Nat} {A : Nat → Prop}
set_option maxHeartbeats 1000000 in
theorem x_thrG {cc : ByteArray} (hexec : p.tables.exec = Jvm.exec) (hb : c.code = cc) (htr : e.platform.stackTraces = false) (hlocks : meth.locks = false)
    {own cls text : String} {ik is ic k : Nat} (hown : s.vm.findClass own = some m.cls) (hcls : Bundle.fit cls = true)
    (hThr : ∀ T : State, T.heap = H → x_Thr own ic cls (xs s T)) (hB1 : (Cond.classLink own ik cls).before args s = true) (hB2 : (Cond.instantiable cls 6).before args s = true) (hB3 : (Cond.initialized cls).before args s = true) (hZ : ∃ q0, vk_R own is text q0 s)
    {pc : Nat} {ls : Array Slot} {rest : List Value} (hsize : ls.size = c.maxLocals)
    (d0 : decode cc pc = .ok (.new ik, 3)) (d3 : decode cc (pc + 3) = .ok (.dup, 1)) (d4 : decode cc (pc + 4) = .ok (.ldc is, k) ∧ k = 2 ∨ decode cc (pc + 4) = .ok (.ldc_w is, k) ∧ k = 3) (d6 : decode cc (pc + 4 + k) = .ok (.invokespecial ic, 3)) (d9 : decode cc (pc + 4 + k + 3) = .ok (.athrow, 1))
    (hout : ∀ x ∈ c.exceptionTable.toList, False)
    (hRf : 5 < R.frames) (hRl : (rest.map fun v => v.category).sum + 1 + 81 ≤ R.locals) (hc : cells + 1 ≤ mc) (hc2 : mc ≤ R.cells) (hs : slots + 6 ≤ ms) (hs2 : ms ≤ R.slots)
    {D : va_G} {ws : va_W} {tys : List (ClassId × FieldType)} (hP : va_P D classes ws H) (hK : va_K D classes tys s) (hD : va_D A ws) (hS : va_S A s.heap H locs) :
    W p l e R s m args below meth c H locs cells slots (MQX below Qc (x_Q cls A (at_ D A ws tys)) args s mc ms A) (F0 m pc ls rest) := by
  obtain ⟨q0, hZ⟩ := hZ
  intro T hT X
  have X' := x_rebase X (by omega) (by omega)
  have k1 : (Cond.classLink own ik cls).before args (xs s T) = true := va_tabs rfl (show s.vm = (xs s T).vm from rfl) hB1
  have k2 : (Cond.instantiable cls 6).before args (xs s T) = true := va_tabs rfl (show s.vm = (xs s T).vm from rfl) hB2
  have k3 : (Cond.initialized cls).before args (xs s T) = true := va_tabs rfl (show s.vm = (xs s T).vm from rfl) hB3
  obtain ⟨cC, hfc, -⟩ := classAt_of k2
  have K : W p l e (xr R cells slots) (xs s T) m args below meth c T.heap [] 0 0 (fun U => U.status = .running ∧ Ended U below (.threw T.heap.size) ∧ (xs s T).WarmedH U.vm ∧ (xs s T).sameButNew ({ U with vm := s.vm } : State) [] 1 6 ∧ ∃ ce : Cell, U.heap[T.heap.size]? = some ce ∧ ce.vm = .none ∧ s.vm.findClass cls = some ce.cls) (F0 m pc ls rest) := by
    refine W.newcK (own := own) (C := cls) (n := 6) (R := xr R cells slots) (cells := 0) (slots := 0) (s := xs s T) (H := T.heap) (g := F0 m pc ls rest) hexec hb hown k1 k2 k3 rfl d0 (by show 0 + 1 ≤ R.cells - cells; omega) (by show 0 + 6 ≤ R.slots - slots; omega) hfc (h := T.heap.size) rfl (fun H1 kC hkC hcell hsz hold => ?_)
    refine W.eq (g2 := F0 m (pc + 3) ls (.ref T.heap.size :: rest)) rfl ?_
    refine lv_dup hexec hb d3 rfl ?_
    have K2 : W p l e (xr R cells slots) (xs s T) m args below meth c H1 [] (0 + 1) (0 + 6) (fun U => U.status = .running ∧ Ended U below (.threw T.heap.size) ∧ (xs s T).WarmedH U.vm ∧ (xs s T).sameButNew ({ U with vm := s.vm } : State) [] 1 6 ∧ ∃ ce : Cell, U.heap[T.heap.size]? = some ce ∧ ce.vm = .none ∧ s.vm.findClass cls = some ce.cls) (F0 m (pc + 4 + k) ls (.ref q0 :: .ref T.heap.size :: .ref T.heap.size :: rest)) := by
      intro T2 hT2 X2
      obtain ⟨U, st, hrun, hend, hW, hsame, ce, hce, hO⟩ := X2.ctorThrowS hexec htr (own := own) (cls := cls) (names := x_n2) (ic := ic) hown hcls (by decide) (hThr T hT args) (fun x hx => by cases hx) hfc hkC (a := T.heap.size) (by rw [hT2]; exact hcell) (Nat.le_refl _) (msg := .ref q0) rfl
        (g := F0 m (pc + 4 + k) ls (.ref q0 :: .ref T.heap.size :: .ref T.heap.size :: rest)) rfl hsize rfl rfl (rest := rest) rfl (by rw [hb]; exact d6) (by rw [hb]; exact d9) (fun x hx => (hout x hx).elim) hRf
        (by show 2 * 0 + (1 + (rest.map fun v => v.category).sum) + 81 ≤ R.locals; omega)
      exact ⟨U, st, hrun, hend, hW, hsame, ce, hce, hO.vm, hO.cls⟩
    rcases d4 with ⟨d4, rfl⟩ | ⟨d4, rfl⟩
    · exact va_ldcS (own := own) (tx := text) (q := q0) hexec hb hown (vk_R.same (u := s) rfl hZ) d4 K2
    · exact x_ldcW (own := own) (tx := text) (q := q0) hexec hb hown (vk_R.same (u := s) rfl hZ) d4 K2
  obtain ⟨U, st, hrun, hend, hW, hsame, ce, hce, hv, hcl⟩ := K T rfl X'
  obtain ⟨o1, o2⟩ := x_old hsame
  have hU : s.WarmedH U.vm := hW
  have h9 := X.same.trans (x_over X hsame)
  rw [List.append_nil] at h9
  have o1' : H.size ≤ U.heap.size := by rw [← hT]; exact o1
  have o2' : ∀ q : Nat, q < H.size → U.heap[q]? = H[q]? := fun q hq => by rw [← hT] at hq ⊢; exact o2 q hq
  exact ⟨U, st, Or.inr ⟨T.heap.size, hrun, hend, cls, ce, ⟨rfl, x_F hS o1' o2', x_Pmono hP o2', va_K.moved hU.alike hK, hD⟩, hce, hv, hcl, hU, locs, h9.mono (by omega) (by omega), hS.2.2⟩⟩
end XTHROW2
