/-! G only grows. -/
def CG.le (G G' : CG) : Prop := G.gc ≤ G'.gc ∧ G.gs ≤ G'.gs
def CG.made (G : CG) (c s : Nat) : CG := (G.u_gc (G.gc + c)).u_gs (G.gs + s)
theorem CG.le_tr {G G1 G2 : CG} (a : CG.le G G1) (b : CG.le G1 G2) : CG.le G G2 := ⟨Nat.le_trans a.1 b.1, Nat.le_trans a.2 b.2⟩
def lf_n {α β : Type} (a : Option (α × CG × CS)) (f : α → CG → CS → Option β) : Option β := match a with
  | some (r, G, S) => f r G S
  | none => none
theorem lf_nE {α β : Type} {a : Option (α × CG × CS)} {f : α → CG → CS → Option β} {x : β} (h : lf_n a f = some x) : ∃ r G S, a = some (r, G, S) ∧ f r G S = some x := by
  cases a with
  | none => cases h
  | some y => exact ⟨y.1, y.2.1, y.2.2, rfl, h⟩
def lf_a {α β : Type} (a : Option (Except Nat α × CG × CS)) (f : α → CG → CS → Option (Except Nat β × CG × CS)) : Option (Except Nat β × CG × CS) := match a with
  | some (.ok r, G, S) => f r G S
  | some (.error k, G, S) => some (.error k, G, S)
  | none => none
theorem lf_aM {α β : Type} {a : Option (Except Nat α × CG × CS)} {f : α → CG → CS → Option (Except Nat β × CG × CS)} {x : Except Nat β} {G' : CG} {S' : CS} (h : lf_a a f = some (x, G', S')) : (∃ r G S, a = some (.ok r, G, S) ∧ f r G S = some (x, G', S')) ∨ ∃ k, a = some (.error k, G', S') ∧ x = .error k := by
  cases a with
  | none => cases h
  | some y =>
    obtain ⟨y, G, S⟩ := y
    cases y with
    | ok r => exact Or.inl ⟨r, G, S, rfl, h⟩
    | error k =>
      have h : some ((Except.error k : Except Nat β), G, S) = some (x, G', S') := h
      cases h
      exact Or.inr ⟨k, rfl, rfl⟩
theorem lf_aO {α β : Type} {a : Option (Except Nat α × CG × CS)} {f : α → CG → CS → Option (Except Nat β × CG × CS)} {b : β} {G' : CG} {S' : CS} (h : lf_a a f = some (.ok b, G', S')) : ∃ r G S, a = some (.ok r, G, S) ∧ f r G S = some (.ok b, G', S') := by
  rcases lf_aM h with z | ⟨k, -, z⟩
  · exact z
  · cases z
theorem lf_aT {α β : Type} {a : Option (Except Nat α × CG × CS)} {f : α → CG → CS → Option (Except Nat β × CG × CS)} {k : Nat} {G' : CG} {S' : CS} (h : lf_a a f = some (.error k, G', S')) : (∃ r G S, a = some (.ok r, G, S) ∧ f r G S = some (.error k, G', S')) ∨ a = some (.error k, G', S') := by
  rcases lf_aM h with z | ⟨j, z, e⟩
  · exact Or.inl z
  · cases e; exact Or.inr z
theorem lf_xo {α : Type} {P : Prop} {v : α} {k : Nat} {G G' : CG} {S S' : CS} (h : some ((Except.ok v : Except Nat α), G, S) = some (.error k, G', S')) : P := by cases h
theorem lf_xe {α : Type} {P : Prop} {v : α} {k : Nat} {G G' : CG} {S S' : CS} (h : some ((Except.error k : Except Nat α), G, S) = some (.ok v, G', S')) : P := by cases h
theorem lf_xk {α : Type} {P : Prop} {j k : Nat} {G G' : CG} {S S' : CS} (h : some ((Except.error j : Except Nat α), G, S) = some (.error k, G', S')) (n : j ≠ k) : P := by
  have e : (Except.error j : Except Nat α) = .error k := congrArg (fun z => z.1) (Option.some.inj h)
  exact absurd (Except.error.inj e) n
theorem lf_xt {α : Type} {L : List Nat} {j k : Nat} {G G' : CG} {S S' : CS} (h : some ((Except.error j : Except Nat α), G, S) = some (.error k, G', S')) (m : j ∈ L) : k ∈ L := by
  have e : (Except.error j : Except Nat α) = .error k := congrArg (fun z => z.1) (Option.some.inj h)
  have e := Except.error.inj e
  subst e
  exact m
theorem lf_sub {L1 L2 : List Nat} {k : Nat} (h : k ∈ L1) (m : ∀ z ∈ L1, z ∈ L2) : k ∈ L2 := m k h
