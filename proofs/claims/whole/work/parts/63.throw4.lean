section XGO
variable {p : Program} {l : Launch} {e : Env} {R : Room} {s : State} {m : MethodId} {args : Array Value} {below : List Frame} {meth : Method} {c : Code} {T : State} {locs : List Loc} {cells slots : Nat}
/-- 'invokevirtual' of y on an object of C: up to the machine's own invocation of y -/
theorem x_goV (X : Stand p l e R s m args below meth c T locs cells slots) (hexec : p.tables.exec = Jvm.exec) {own C : String} {index : Nat} {y : MethodName} {bytes : ByteArray} {maxL : Nat} {ret : Option FieldType}
    (hown : s.vm.findClass own = some m.cls) (hlink : (Cond.methodLink own index y).before args s = true) (hinst : (Cond.instanceMethod y).before args s = true) (hsel : (Cond.selects C y y).before args s = true)
    (hcode : (Cond.code y bytes maxL ret).before args s = true) (hy : y.cls ≠ "java/lang/invoke/MethodHandle" ∧ y.cls ≠ "java/lang/invoke/VarHandle")
    {b : Addr} (hr : ∃ cell : Cell, T.heap[b]? = some cell ∧ cell.vm.isStatics = false ∧ s.vm.findClass C = some cell.cls)
    {g : JFrame} (hg : g.method = m) {argsL rest : List Value} (hlen : ∀ sig, parseMethodDescriptor y.desc = some sig → argsL.length = sig.parameters.length)
    (hstack : g.stack = argsL.reverse ++ .ref b :: rest) (hdg : decode c.code g.pc = .ok (.invokevirtual index, 3)) :
    ∃ (mk : MethodId) (vm₁ : Vm), s.WarmedH vm₁ ∧ Stand p l e R s m args below meth c (T.setVm vm₁) locs cells slots ∧ (T.setVm vm₁).methodNamed? y = some mk ∧
      ∀ tg, Steps p.tables e below (doInvoke e ((T.setVm vm₁).setTop { g with stack := rest }) [] mk (Value.ref b :: argsL).toArray).1 tg → Steps p.tables e below (T.setTop g) tg := by
  obtain ⟨cell, hcell, hobj, hcl⟩ := hr
  obtain ⟨mk, mt, hnamed, hmt, hst, hab⟩ := Cond.instanceMethod_spec hinst
  obtain ⟨mt', cd, hmt', -, -, -, -, -, -, hsig⟩ := Cond.code_spec hnamed hcode
  cases hmt.symm.trans hmt'
  obtain ⟨c2, r2, m2, z1, z2, z3, z4, kP, hkP, hkI⟩ := Cond.selects_spec hsel
  cases hcl.symm.trans z1
  cases (State.methodFound?_of_named hnamed hy).symm.trans z2
  cases hnamed.symm.trans z3
  have hsl : selectMethod e.platform s.vm cell.cls mk = .method mk := by rw [Launch.admits_selectMethod X.admits]; exact z4
  obtain ⟨vm₁, X₁, hstep⟩ := X.invokevirtual hexec hown hlink hnamed hmt hst hkP hkI hy (a := b) (cell := cell) hcell (fun z h => by rw [h] at hobj; cases hobj) hsl hmt hab hkP hkI (g := g) hg (argsL := argsL) (rest := rest) (hlen _ hsig) hstack hdg
  exact ⟨mk, vm₁, X₁.warmed, X₁, X₁.named hnamed, fun tg h => hstep _ fun acts => by rw [doInvoke_state]; exact h⟩
end XGO
section XOUT
variable {p : Program} {l : Launch} {e : Env} {R : Room} {s : State} {m : MethodId} {args : Array Value} {below : List Frame} {meth : Method} {c : Code} {H : Heap} {locs : List Loc} {cells slots : Nat} {Qc : Array Value → State → Outcome → State → Prop} {Xc : String → State → State → Prop} {mc0 ms0 : Nat} {free0 : Addr → Prop}
/-- a callee that throws, called by invokevirtual in a method without handlers: the method throws the same -/
theorem x_outV {y : MethodName} {bytes cc : ByteArray} {maxL nL mc ms n index : Nat} {ret : Option FieldType} {ws : List Cond} {rm : Room} {Pc : Array Value → State → Prop} {Xd : String → State → State → Prop} {free : Addr → Prop} {Ts : List Cond} {own C : String} {b : Addr} {As rest : List Value} {pc : Nat} {ls : Array Slot} {st0 : List Value}
    (S : CallFix p m c cc nL s args Ts own) (hM : MetX l y ws rm Pc (fun _ _ _ _ => False) Xd mc ms free) (cw : CallW R s args own C index y bytes maxL ret ws rm mc ms n) (hp : PreV s H C b Pc As)
    (hn : As.length = n) (hsize : ls.size = nL) (hstack : st0 = As.reverse ++ .ref b :: rest) (hW : (rest.map fun v => v.category).sum ≤ 8) (hdg : decode cc pc = .ok (.invokevirtual index, 3)) (hf : cells + mc ≤ R.cells ∧ slots + ms ≤ R.slots)
    (hlocks : meth.locks = false) (hout : ∀ x ∈ c.exceptionTable.toList, False) (hm : cells + mc ≤ mc0 ∧ slots + ms ≤ ms0)
    (hX : ∀ (E : String) (st t U : State), st.heap = H → s.vm.Alike st.vm → Xd E st t → U.heap = t.heap → s.vm.Alike U.vm → Xc E s U) (hfr : (∀ z ∈ locs, free0 z.base) ∧ ∀ z, free z → free0 z) :
    W p l e R s m args below meth c H locs cells slots (MQX below Qc Xc args s mc0 ms0 free0) (F0 m pc ls st0) := by
  intro T hT X
  obtain ⟨⟨hrc, hrs, hfrm, hlo, hws, hcw, hcode, hini, hy, hlen, hl⟩, hin, hse⟩ := cw
  obtain ⟨hx, hb, hml, ho, -⟩ := S
  obtain ⟨hbl, hrecv, hPc⟩ := hp
  obtain ⟨mk, vm₁, hW₁, X₁, hnm, hgo⟩ := x_goV X hx ho hl hin hse hcode hy (b := b) (by rw [hT]; exact hrecv) (g := F0 m pc ls st0) rfl (argsL := As) (rest := rest) (fun sig h => hn.trans (hlen sig h)) hstack (by rw [hb]; exact hdg)
  obtain ⟨q, t, L, X₂, ⟨E, ce, hxd, hce, hv, hcl⟩, hL, hst⟩ := x_callT X₁ hM (bytes := bytes) (maxL := maxL) (ret := ret) (len := 3) (g := F0 m pc ls rest) (ig := .invokevirtual index) (mk := mk) (a := (Value.ref b :: As).toArray)
    rfl (hsize.trans hml.symm) (by rw [hb]; exact hdg) (by show 2 * 0 + (rest.map fun v => v.category).sum ≤ 8; omega) hnm (fun w hw => hws w hw _ _ hW₁) (hws _ hcw _ _ hW₁) (word_at hW₁ (Or.inl (by first | rfl | simp [Cond.onTables, Cond.keeps, Cond.steady])) hini) hrc hrs hfrm hlo hf.1 hf.2
    (hbl _ _ _ _ (hPc (T.setVm vm₁) hT hW₁))
  obtain ⟨s1, s2, s3, s4, s5⟩ := X₂.leaveThrown q (g := F0 m pc ls rest) rfl rfl rfl (fun x hx9 => (hout x hx9).elim) hlocks
  refine ⟨_, (hgo _ (hst.trans s1)), Or.inr ⟨q, s2, s3, E, ce, hX E _ t _ (by rw [← hT]; rfl) hW₁.alike hxd rfl s4.alike, hce, hv, ?_, s4, locs ++ L, s5.mono hm.1 hm.2, fun z hz => ?_⟩⟩
  · have h9 : vm₁.findClass E = some ce.cls := hcl
    rw [hW₁.alike.findClass] at h9
    exact h9
  · rcases List.mem_append.mp hz with h | h
    · exact hfr.1 z h
    · exact hfr.2 _ (hL z h)
end XOUT
