structure lx_X (l : Launch) (dC : Nat → ClassId) (dI : Nat → Nat → Nat) (K : Nat) (M : MA) (E : State → Prop) : Prop where
  same : ∀ U V : State, V.vm = U.vm → V.heap = U.heap → E U → E V
  kept : ∀ s U : State, E s → s.WarmedH U.vm → (∀ q : Nat, q < s.heap.size → q ∉ lx_adr M → U.heap[q]? = s.heap[q]?) → E U
  isShortSign : ∀ (sz : Nat) {p0 : Int32} {r : Int32}, f_Mo_isShortSign K p0 = some r → Met l y_Mo_isShortSign (.code y_Mo_isShortSign b_Mo_isShortSign 1 (some .boolean) :: V_Mq) ({ frames := 8, cells := 0, slots := 0, locals := 250 }) (va_Pc [.int p0] (fun U => U.heap.size = sz ∧ at_ (dC, dI) (fun _ => True) [] [] U ∧ E U)) (va_Qi (fun (r_ : Int32) (u : Unit) => r_ = r) (fun (u : Unit) t => at_ (dC, dI) (va_A [] sz) [] [] t) (va_A [] sz)) 0 0 (va_A [] sz)
  isName : ∀ (sz : Nat) {S S' : MS} {r : Int32}, f_Mo_isName K S = some (r, S') → Met l y_Mo_isName (.code y_Mo_isName b_Mo_isName 4 (some .boolean) :: V_Mq) ({ frames := 8, cells := 0, slots := 0, locals := 250 }) (va_Pc [.ref M.o] (fun U => U.heap.size = sz ∧ at_ (dC, dI) (fun _ => True) (wM M S) (tM M) U ∧ E U)) (va_Qi (fun (r_ : Int32) (u : Unit) => r_ = r) (fun (u : Unit) t => at_ (dC, dI) (va_A (wM M S) sz) (wM M S') (tM M) t) (va_A (wM M S) sz)) 0 0 (va_A (wM M S) sz)
  text : ∀ (sz : Nat) {S S' : MS} {p0 : Int32} {p1 : Int32} {r : Int32}, f_Mo_text K S p0 p1 = some (r, S') → Met l y_Mo_text (.code y_Mo_text b_Mo_text 7 (some .int) :: V_Mq) ({ frames := 8, cells := 0, slots := 0, locals := 250 }) (va_Pc [.ref M.o, .int p0, .int p1] (fun U => U.heap.size = sz ∧ at_ (dC, dI) (fun _ => True) (wM M S) (tM M) U ∧ E U)) (va_Qi (fun (r_ : Int32) (u : Unit) => r_ = r) (fun (u : Unit) t => at_ (dC, dI) (va_A (wM M S) sz) (wM M S') (tM M) t) (va_A (wM M S) sz)) 0 0 (va_A (wM M S) sz)
  badNames : ∀ (sz : Nat) {S S' : MS} {r : Int32}, f_Mo_badNames K S = some (r, S') → Met l y_Mo_badNames (.code y_Mo_badNames b_Mo_badNames 3 (some .boolean) :: V_Mq) ({ frames := 8, cells := 0, slots := 0, locals := 250 }) (va_Pc [.ref M.o] (fun U => U.heap.size = sz ∧ at_ (dC, dI) (fun _ => True) (wM M S) (tM M) U ∧ E U)) (va_Qi (fun (r_ : Int32) (u : Unit) => r_ = r) (fun (u : Unit) t => at_ (dC, dI) (va_A (wM M S) sz) (wM M S') (tM M) t) (va_A (wM M S) sz)) 0 0 (va_A (wM M S) sz)
  makeRecord : ∀ (sz : Nat) {S S' : MS}, f_Mo_makeRecord K S = some S' → Met l y_Mo_makeRecord (.code y_Mo_makeRecord b_Mo_makeRecord 4 none :: V_Mq) ({ frames := 8, cells := 0, slots := 0, locals := 250 }) (va_Pc [.ref M.o] (fun U => U.heap.size = sz ∧ at_ (dC, dI) (fun _ => True) (wM M S) (tM M) U ∧ E U)) (va_Qv (fun (u : Unit) => True) (fun (u : Unit) t => at_ (dC, dI) (va_A (wM M S) sz) (wM M S') (tM M) t) (va_A (wM M S) sz)) 0 0 (va_A (wM M S) sz)
theorem lx_kept {l : Launch} {dC : Nat → ClassId} {dI : Nat → Nat → Nat} {K : Nat} {M : MA} {E : State → Prop} (X : lx_X l dC dI K M E) {s U : State} {S : MS} {A : Nat → Prop} {H : Heap} {locs : List Loc} (hE : E s) (hAe : va_A (wM M S) s.heap.size = A) (hS : va_S A s.heap H locs) (hU : U.heap = H) (hW : s.WarmedH U.vm) : E U :=
  X.kept s U hE hW (fun q hq hn => by
    rw [hU]
    refine hS.2.1 q hq (fun z => ?_)
    rw [← hAe] at z
    rcases z with ⟨k, e, z⟩ | z
    · exact hn (lx_mem z)
    · exact absurd hq (Nat.not_lt.mpr z))
theorem lx_kept0 {l : Launch} {dC : Nat → ClassId} {dI : Nat → Nat → Nat} {K : Nat} {M : MA} {E : State → Prop} (X : lx_X l dC dI K M E) {s U : State} {A : Nat → Prop} {H : Heap} {locs : List Loc} (hE : E s) (hAe : va_A [] s.heap.size = A) (hS : va_S A s.heap H locs) (hU : U.heap = H) (hW : s.WarmedH U.vm) : E U :=
  X.kept s U hE hW (fun q hq _ => by
    rw [hU]
    refine hS.2.1 q hq (fun z => ?_)
    rw [← hAe] at z
    rcases z with ⟨k, e, z⟩ | z
    · simp at z
    · exact absurd hq (Nat.not_lt.mpr z))
