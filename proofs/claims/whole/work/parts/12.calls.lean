/-- the world behind a method: its cells, the tables' word on arrays, all apart -/
abbrev at_ (D : va_G) (A : Nat → Prop) (W : va_W) (tys : List (ClassId × FieldType)) (t : State) : Prop := va_P D classes W t.heap ∧ va_K D classes tys t ∧ va_D A W
theorem ps_of {s : State} {H : Heap} {D : va_G} {W : va_W} {tys : List (ClassId × FieldType)} {As : List Value} {A : Nat → Prop} (hP : va_P D classes W H) (hK : va_K D classes tys s) (hD : va_D A W) : PreS s H (va_Pc As (fun U => U.heap.size = H.size ∧ at_ D (fun _ => True) W tys U)) As :=
  ⟨fun a U g mk q => by obtain ⟨q0, q1, qP, qK, qD⟩ := q; exact ⟨q0, q1, qP, va_K.moved (u := U) (U := U.calling g mk a) (Vm.Alike.refl U.vm) qK, qD⟩, fun U hU hW => ⟨rfl, by rw [hU], by rw [hU]; exact hP, va_K.moved hW.alike hK, hD.weaken (fun _ _ _ _ => trivial)⟩⟩
theorem pv_of {s : State} {H : Heap} {D : va_G} {W : va_W} {tys : List (ClassId × FieldType)} {As : List Value} {A : Nat → Prop} {b : Nat} {C : String} (hP : va_P D classes W H) (hK : va_K D classes tys s) (hD : va_D A W) (hr : ∃ cell : Cell, H[b]? = some cell ∧ cell.vm.isStatics = false ∧ s.vm.findClass C = some cell.cls) : PreV s H C b (va_Pc (.ref b :: As) (fun U => U.heap.size = H.size ∧ at_ D (fun _ => True) W tys U)) As :=
  ⟨fun a U g mk q => by obtain ⟨q0, q1, qP, qK, qD⟩ := q; exact ⟨q0, q1, qP, va_K.moved (u := U) (U := U.calling g mk a) (Vm.Alike.refl U.vm) qK, qD⟩, hr, fun U hU hW => ⟨rfl, by rw [hU], by rw [hU]; exact hP, va_K.moved hW.alike hK, hD.weaken (fun _ _ _ _ => trivial)⟩⟩
theorem gwV {big : List Cond} {own : String} {idx : Nat} {C : String} {y : MethodName} {ws : List Cond} (hg : GoodIn big big) (h1 : Cond.methodLink own idx y ∈ big) (h2 : Cond.instanceMethod y ∈ big) (h3 : Cond.selects C y y ∈ big) (h4 : Cond.initialized C ∈ big) (hw : ∀ w ∈ ws, w ∈ big) : GoodIn big (wsV own idx C y ws) := by
  intro w h
  unfold wsV at h
  rcases List.mem_append.mp h with h | h
  · simp only [List.mem_cons, List.not_mem_nil, or_false] at h
    rcases h with rfl | rfl | rfl | rfl
    · exact hg _ h1
    · exact hg _ h2
    · exact hg _ h3
    · exact hg _ h4
  · exact hg _ (hw w h)
theorem gwS {big : List Cond} {own : String} {idx : Nat} {y : MethodName} {ws : List Cond} (hg : GoodIn big big) (h1 : Cond.methodLink own idx y ∈ big) (h2 : Cond.static y ∈ big) (h4 : Cond.initialized y.cls ∈ big) (hw : ∀ w ∈ ws, w ∈ big) : GoodIn big (va_wsS own idx y ws) := by
  intro w h
  unfold va_wsS at h
  rcases List.mem_append.mp h with h | h
  · simp only [List.mem_cons, List.not_mem_nil, or_false] at h
    rcases h with rfl | rfl | rfl
    · exact hg _ h1
    · exact hg _ h2
    · exact hg _ h4
  · exact hg _ (hw w h)
theorem wcs {big ws : List Cond} {c : Cond} (hc : c ∈ big) (hw : ∀ w ∈ ws, w ∈ big) : ∀ w ∈ c :: ws, w ∈ big := fun w h => (List.mem_cons.mp h).elim (fun e => e ▸ hc) (hw w)
theorem qabs {p : Program} {l : Launch} {e : Env} {R : Room} {s : State} {m : MethodId} {args : Array Value} {below : List Frame} {meth : Method} {c : Code} {H : Heap} {locs : List Loc} {cells slots : Nat} {Q : State → Prop} {g : JFrame} (k : ∀ Q' : State → Prop, Q' = Q → W p l e R s m args below meth c H locs cells slots Q' g) : W p l e R s m args below meth c H locs cells slots Q g := k Q rfl
theorem ar_fill0 (f : Nat → Int32) (lo : Nat) (x : Int32) : ar_fill f lo lo x = f := by
  funext j
  unfold ar_fill
  exact if_neg (by omega)
theorem ar_fill1 {f : Nat → Int32} {lo i : Nat} {x : Int32} (hl : lo ≤ i) (hi : i < 2 ^ 31) : upd (ar_fill f lo i x) (nI i).toNatClampNeg x = ar_fill f lo (i + 1) x := by
  funext j
  rw [nI_clamp hi]
  unfold upd ar_fill
  by_cases h : j = i
  · subst h; rw [if_pos rfl, if_pos (by omega)]
  · rw [if_neg h]
    by_cases h2 : lo ≤ j ∧ j < i
    · rw [if_pos h2, if_pos (by omega)]
    · rw [if_neg h2, if_neg (by omega)]
