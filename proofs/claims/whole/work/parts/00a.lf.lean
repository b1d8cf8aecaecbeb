/-! Functions lifted out of the code: what a step of theirs says. -/
def lf_g {α : Type} (P : Prop) [Decidable P] (a : Option α) : Option α := if P then a else none
def lf_l {α β : Type} (a : α) (f : α → Option β) : Option β := f a
def lf_c {ρ σ β : Type} (a : Option (ρ × σ)) (f : ρ → σ → Option β) : Option β := match a with
  | some (r, s) => f r s
  | none => none
theorem lf_gE {α : Type} {P : Prop} [Decidable P] {a : Option α} {x : α} (h : lf_g P a = some x) : P ∧ a = some x := by
  unfold lf_g at h
  by_cases c : P
  · rw [if_pos c] at h; exact ⟨c, h⟩
  · rw [if_neg c] at h; cases h
theorem lf_lE {α β : Type} {a : α} {f : α → Option β} {x : β} (h : lf_l a f = some x) {y : α} (e : y = a) : f y = some x := by subst e; exact h
theorem lf_lX {α β : Type} {a : α} {f : α → Option β} {x : β} (h : lf_l a f = some x) : ∃ y : α, y = a ∧ f y = some x := ⟨a, rfl, h⟩
theorem lf_cE {ρ σ β : Type} {a : Option (ρ × σ)} {f : ρ → σ → Option β} {x : β} (h : lf_c a f = some x) : ∃ r s, a = some (r, s) ∧ f r s = some x := by
  cases a with
  | none => cases h
  | some y => exact ⟨y.1, y.2, rfl, h⟩
theorem lf_bE {α β : Type} {a : Option α} {f : α → Option β} {x : β} (h : a.bind f = some x) : ∃ y, a = some y ∧ f y = some x := by
  cases a with
  | none => cases h
  | some y => exact ⟨y, rfl, h⟩
theorem lf_t {α : Type} {P : Prop} [Decidable P] {a b : Option α} {x : α} (h : (if P then a else b) = some x) (c : P) : a = some x := (if_pos c).symm.trans h
theorem lf_f {α : Type} {P : Prop} [Decidable P] {a b : Option α} {x : α} (h : (if P then a else b) = some x) (c : ¬ P) : b = some x := (if_neg c).symm.trans h
theorem lf_no {α : Type} {x : α} {P : Prop} (h : (none : Option α) = some x) : P := by cases h
abbrev lf_in (i : Int32) (n : Nat) : Prop := ¬ (i < 0 ∨ n ≤ i.toNatClampNeg)
abbrev MS : Type := (((((((Int32 × (Nat → Int32)) × (Nat → Int32)) × ((Nat → Int32) × (Nat → Int32))) × ((Int32 × Int32) × (Int32 × Int32))) × (((Int32 × Int32) × (Int32 × Int32)) × ((Int32 × Int32) × (Int32 × Int32)))) × ((((Int32 × Int32) × (Int32 × Int32)) × ((Int32 × Int32) × ((Nat → Int32) × (Nat → Int32)))) × ((((Nat → Int32) × (Nat → Int32)) × ((Nat → Int32) × (Nat → Int32))) × (((Nat → Int32) × (Nat → Int32)) × ((Nat → Int32) × (Nat → Int32)))))) × (((((((Nat → Int32) × (Nat → Int32)) × Int32) × (Int32 × Int32)) × (((Nat → Int32) × Int32) × (Int32 × Int32))) × (((Int32 × (Nat → Int32)) × ((Nat → Int32) × (Nat → Int32))) × ((Int32 × Int32) × (Int32 × Int32)))) × ((((Int32 × (Nat → Int32)) × ((Nat → Int32) × (Nat → Int32))) × (((Nat → Int32) × (Nat → Int32)) × (Int32 × Int32))) × (((Int32 × Int32) × (Int32 × (Nat → Int32))) × (((Nat → Int32) × Int32) × (Int32 × Int32))))))
abbrev MS.v_n (S : MS) : Int32 := S.1.1.1.1.1.1.1
def MS.u_v_n (S : MS) (v : Int32) : MS := (((((((v, S.1.1.1.1.1.1.2), S.1.1.1.1.1.2), S.1.1.1.1.2), S.1.1.1.2), S.1.1.2), S.1.2), S.2)
abbrev MS.v_disk (S : MS) : (Nat → Int32) := S.1.1.1.1.1.1.2
def MS.u_v_disk (S : MS) (v : (Nat → Int32)) : MS := (((((((S.1.1.1.1.1.1.1, v), S.1.1.1.1.1.2), S.1.1.1.1.2), S.1.1.1.2), S.1.1.2), S.1.2), S.2)
abbrev MS.v_fresh (S : MS) : (Nat → Int32) := S.1.1.1.1.1.2
def MS.u_v_fresh (S : MS) (v : (Nat → Int32)) : MS := ((((((S.1.1.1.1.1.1, v), S.1.1.1.1.2), S.1.1.1.2), S.1.1.2), S.1.2), S.2)
abbrev MS.v_tape (S : MS) : (Nat → Int32) := S.1.1.1.1.2.1
def MS.u_v_tape (S : MS) (v : (Nat → Int32)) : MS := (((((S.1.1.1.1.1, (v, S.1.1.1.1.2.2)), S.1.1.1.2), S.1.1.2), S.1.2), S.2)
abbrev MS.v_ready (S : MS) : (Nat → Int32) := S.1.1.1.1.2.2
def MS.u_v_ready (S : MS) (v : (Nat → Int32)) : MS := (((((S.1.1.1.1.1, (S.1.1.1.1.2.1, v)), S.1.1.1.2), S.1.1.2), S.1.2), S.2)
abbrev MS.v_taped (S : MS) : Int32 := S.1.1.1.2.1.1
def MS.u_v_taped (S : MS) (v : Int32) : MS := ((((S.1.1.1.1, ((v, S.1.1.1.2.1.2), S.1.1.1.2.2)), S.1.1.2), S.1.2), S.2)
abbrev MS.v_thrown (S : MS) : Int32 := S.1.1.1.2.1.2
def MS.u_v_thrown (S : MS) (v : Int32) : MS := ((((S.1.1.1.1, ((S.1.1.1.2.1.1, v), S.1.1.1.2.2)), S.1.1.2), S.1.2), S.2)
abbrev MS.v_told (S : MS) : Int32 := S.1.1.1.2.2.1
def MS.u_v_told (S : MS) (v : Int32) : MS := ((((S.1.1.1.1, (S.1.1.1.2.1, (v, S.1.1.1.2.2.2))), S.1.1.2), S.1.2), S.2)
abbrev MS.v_fed (S : MS) : Int32 := S.1.1.1.2.2.2
def MS.u_v_fed (S : MS) (v : Int32) : MS := ((((S.1.1.1.1, (S.1.1.1.2.1, (S.1.1.1.2.2.1, v))), S.1.1.2), S.1.2), S.2)
abbrev MS.v_turned (S : MS) : Int32 := S.1.1.2.1.1.1
def MS.u_v_turned (S : MS) (v : Int32) : MS := (((S.1.1.1, (((v, S.1.1.2.1.1.2), S.1.1.2.1.2), S.1.1.2.2)), S.1.2), S.2)
abbrev MS.v_ran (S : MS) : Int32 := S.1.1.2.1.1.2
def MS.u_v_ran (S : MS) (v : Int32) : MS := (((S.1.1.1, (((S.1.1.2.1.1.1, v), S.1.1.2.1.2), S.1.1.2.2)), S.1.2), S.2)
abbrev MS.v_c (S : MS) : Int32 := S.1.1.2.1.2.1
def MS.u_v_c (S : MS) (v : Int32) : MS := (((S.1.1.1, ((S.1.1.2.1.1, (v, S.1.1.2.1.2.2)), S.1.1.2.2)), S.1.2), S.2)
abbrev MS.v_v (S : MS) : Int32 := S.1.1.2.1.2.2
def MS.u_v_v (S : MS) (v : Int32) : MS := (((S.1.1.1, ((S.1.1.2.1.1, (S.1.1.2.1.2.1, v)), S.1.1.2.2)), S.1.2), S.2)
abbrev MS.v_y (S : MS) : Int32 := S.1.1.2.2.1.1
def MS.u_v_y (S : MS) (v : Int32) : MS := (((S.1.1.1, (S.1.1.2.1, ((v, S.1.1.2.2.1.2), S.1.1.2.2.2))), S.1.2), S.2)
abbrev MS.v_z (S : MS) : Int32 := S.1.1.2.2.1.2
def MS.u_v_z (S : MS) (v : Int32) : MS := (((S.1.1.1, (S.1.1.2.1, ((S.1.1.2.2.1.1, v), S.1.1.2.2.2))), S.1.2), S.2)
abbrev MS.v_root (S : MS) : Int32 := S.1.1.2.2.2.1
def MS.u_v_root (S : MS) (v : Int32) : MS := (((S.1.1.1, (S.1.1.2.1, (S.1.1.2.2.1, (v, S.1.1.2.2.2.2)))), S.1.2), S.2)
abbrev MS.v_a (S : MS) : Int32 := S.1.1.2.2.2.2
def MS.u_v_a (S : MS) (v : Int32) : MS := (((S.1.1.1, (S.1.1.2.1, (S.1.1.2.2.1, (S.1.1.2.2.2.1, v)))), S.1.2), S.2)
abbrev MS.v_k (S : MS) : Int32 := S.1.2.1.1.1.1
def MS.u_v_k (S : MS) (v : Int32) : MS := ((S.1.1, ((((v, S.1.2.1.1.1.2), S.1.2.1.1.2), S.1.2.1.2), S.1.2.2)), S.2)
abbrev MS.v_here (S : MS) : Int32 := S.1.2.1.1.1.2
def MS.u_v_here (S : MS) (v : Int32) : MS := ((S.1.1, ((((S.1.2.1.1.1.1, v), S.1.2.1.1.2), S.1.2.1.2), S.1.2.2)), S.2)
abbrev MS.v_looked (S : MS) : Int32 := S.1.2.1.1.2.1
def MS.u_v_looked (S : MS) (v : Int32) : MS := ((S.1.1, (((S.1.2.1.1.1, (v, S.1.2.1.1.2.2)), S.1.2.1.2), S.1.2.2)), S.2)
abbrev MS.v_fault (S : MS) : Int32 := S.1.2.1.1.2.2
def MS.u_v_fault (S : MS) (v : Int32) : MS := ((S.1.1, (((S.1.2.1.1.1, (S.1.2.1.1.2.1, v)), S.1.2.1.2), S.1.2.2)), S.2)
abbrev MS.v_items (S : MS) : Int32 := S.1.2.1.2.1.1
def MS.u_v_items (S : MS) (v : Int32) : MS := ((S.1.1, ((S.1.2.1.1, ((v, S.1.2.1.2.1.2), S.1.2.1.2.2)), S.1.2.2)), S.2)
abbrev MS.v_units (S : MS) : Int32 := S.1.2.1.2.1.2
def MS.u_v_units (S : MS) (v : Int32) : MS := ((S.1.1, ((S.1.2.1.1, ((S.1.2.1.2.1.1, v), S.1.2.1.2.2)), S.1.2.2)), S.2)
abbrev MS.v_chained (S : MS) : (Nat → Int32) := S.1.2.1.2.2.1
def MS.u_v_chained (S : MS) (v : (Nat → Int32)) : MS := ((S.1.1, ((S.1.2.1.1, (S.1.2.1.2.1, (v, S.1.2.1.2.2.2))), S.1.2.2)), S.2)
abbrev MS.v_at (S : MS) : (Nat → Int32) := S.1.2.1.2.2.2
def MS.u_v_at (S : MS) (v : (Nat → Int32)) : MS := ((S.1.1, ((S.1.2.1.1, (S.1.2.1.2.1, (S.1.2.1.2.2.1, v))), S.1.2.2)), S.2)
abbrev MS.v_slot (S : MS) : (Nat → Int32) := S.1.2.2.1.1.1
def MS.u_v_slot (S : MS) (v : (Nat → Int32)) : MS := ((S.1.1, (S.1.2.1, (((v, S.1.2.2.1.1.2), S.1.2.2.1.2), S.1.2.2.2))), S.2)
abbrev MS.v_parts (S : MS) : (Nat → Int32) := S.1.2.2.1.1.2
def MS.u_v_parts (S : MS) (v : (Nat → Int32)) : MS := ((S.1.1, (S.1.2.1, (((S.1.2.2.1.1.1, v), S.1.2.2.1.2), S.1.2.2.2))), S.2)
abbrev MS.v_parent (S : MS) : (Nat → Int32) := S.1.2.2.1.2.1
def MS.u_v_parent (S : MS) (v : (Nat → Int32)) : MS := ((S.1.1, (S.1.2.1, ((S.1.2.2.1.1, (v, S.1.2.2.1.2.2)), S.1.2.2.2))), S.2)
abbrev MS.v_kids (S : MS) : (Nat → Int32) := S.1.2.2.1.2.2
def MS.u_v_kids (S : MS) (v : (Nat → Int32)) : MS := ((S.1.1, (S.1.2.1, ((S.1.2.2.1.1, (S.1.2.2.1.2.1, v)), S.1.2.2.2))), S.2)
abbrev MS.v_firstKid (S : MS) : (Nat → Int32) := S.1.2.2.2.1.1
def MS.u_v_firstKid (S : MS) (v : (Nat → Int32)) : MS := ((S.1.1, (S.1.2.1, (S.1.2.2.1, ((v, S.1.2.2.2.1.2), S.1.2.2.2.2)))), S.2)
abbrev MS.v_nameAt (S : MS) : (Nat → Int32) := S.1.2.2.2.1.2
def MS.u_v_nameAt (S : MS) (v : (Nat → Int32)) : MS := ((S.1.1, (S.1.2.1, (S.1.2.2.1, ((S.1.2.2.2.1.1, v), S.1.2.2.2.2)))), S.2)
abbrev MS.v_nameSize (S : MS) : (Nat → Int32) := S.1.2.2.2.2.1
def MS.u_v_nameSize (S : MS) (v : (Nat → Int32)) : MS := ((S.1.1, (S.1.2.1, (S.1.2.2.1, (S.1.2.2.2.1, (v, S.1.2.2.2.2.2))))), S.2)
abbrev MS.v_unit (S : MS) : (Nat → Int32) := S.1.2.2.2.2.2
def MS.u_v_unit (S : MS) (v : (Nat → Int32)) : MS := ((S.1.1, (S.1.2.1, (S.1.2.2.1, (S.1.2.2.2.1, (S.1.2.2.2.2.1, v))))), S.2)
abbrev MS.v_chain (S : MS) : (Nat → Int32) := S.2.1.1.1.1.1.1
def MS.u_v_chain (S : MS) (v : (Nat → Int32)) : MS := (S.1, ((((((v, S.2.1.1.1.1.1.2), S.2.1.1.1.1.2), S.2.1.1.1.2), S.2.1.1.2), S.2.1.2), S.2.2))
abbrev MS.v_folder (S : MS) : (Nat → Int32) := S.2.1.1.1.1.1.2
def MS.u_v_folder (S : MS) (v : (Nat → Int32)) : MS := (S.1, ((((((S.2.1.1.1.1.1.1, v), S.2.1.1.1.1.2), S.2.1.1.1.2), S.2.1.1.2), S.2.1.2), S.2.2))
abbrev MS.v_links (S : MS) : Int32 := S.2.1.1.1.1.2
def MS.u_v_links (S : MS) (v : Int32) : MS := (S.1, (((((S.2.1.1.1.1.1, v), S.2.1.1.1.2), S.2.1.1.2), S.2.1.2), S.2.2))
abbrev MS.v_folders (S : MS) : Int32 := S.2.1.1.1.2.1
def MS.u_v_folders (S : MS) (v : Int32) : MS := (S.1, ((((S.2.1.1.1.1, (v, S.2.1.1.1.2.2)), S.2.1.1.2), S.2.1.2), S.2.2))
abbrev MS.v_label (S : MS) : Int32 := S.2.1.1.1.2.2
def MS.u_v_label (S : MS) (v : Int32) : MS := (S.1, ((((S.2.1.1.1.1, (S.2.1.1.1.2.1, v)), S.2.1.1.2), S.2.1.2), S.2.2))
abbrev MS.v_name (S : MS) : (Nat → Int32) := S.2.1.1.2.1.1
def MS.u_v_name (S : MS) (v : (Nat → Int32)) : MS := (S.1, (((S.2.1.1.1, ((v, S.2.1.1.2.1.2), S.2.1.1.2.2)), S.2.1.2), S.2.2))
abbrev MS.v_size (S : MS) : Int32 := S.2.1.1.2.1.2
def MS.u_v_size (S : MS) (v : Int32) : MS := (S.1, (((S.2.1.1.1, ((S.2.1.1.2.1.1, v), S.2.1.1.2.2)), S.2.1.2), S.2.2))
abbrev MS.v_met (S : MS) : Int32 := S.2.1.1.2.2.1
def MS.u_v_met (S : MS) (v : Int32) : MS := (S.1, (((S.2.1.1.1, (S.2.1.1.2.1, (v, S.2.1.1.2.2.2))), S.2.1.2), S.2.2))
abbrev MS.v_left (S : MS) : Int32 := S.2.1.1.2.2.2
def MS.u_v_left (S : MS) (v : Int32) : MS := (S.1, (((S.2.1.1.1, (S.2.1.1.2.1, (S.2.1.1.2.2.1, v))), S.2.1.2), S.2.2))
abbrev MS.v_sum (S : MS) : Int32 := S.2.1.2.1.1.1
def MS.u_v_sum (S : MS) (v : Int32) : MS := (S.1, ((S.2.1.1, (((v, S.2.1.2.1.1.2), S.2.1.2.1.2), S.2.1.2.2)), S.2.2))
abbrev MS.v_brief (S : MS) : (Nat → Int32) := S.2.1.2.1.1.2
def MS.u_v_brief (S : MS) (v : (Nat → Int32)) : MS := (S.1, ((S.2.1.1, (((S.2.1.2.1.1.1, v), S.2.1.2.1.2), S.2.1.2.2)), S.2.2))
abbrev MS.v_stem (S : MS) : (Nat → Int32) := S.2.1.2.1.2.1
def MS.u_v_stem (S : MS) (v : (Nat → Int32)) : MS := (S.1, ((S.2.1.1, ((S.2.1.2.1.1, (v, S.2.1.2.1.2.2)), S.2.1.2.2)), S.2.2))
abbrev MS.v_tail (S : MS) : (Nat → Int32) := S.2.1.2.1.2.2
def MS.u_v_tail (S : MS) (v : (Nat → Int32)) : MS := (S.1, ((S.2.1.1, ((S.2.1.2.1.1, (S.2.1.2.1.2.1, v)), S.2.1.2.2)), S.2.2))
abbrev MS.v_groups (S : MS) : Int32 := S.2.1.2.2.1.1
def MS.u_v_groups (S : MS) (v : Int32) : MS := (S.1, ((S.2.1.1, (S.2.1.2.1, ((v, S.2.1.2.2.1.2), S.2.1.2.2.2))), S.2.2))
abbrev MS.v_per (S : MS) : Int32 := S.2.1.2.2.1.2
def MS.u_v_per (S : MS) (v : Int32) : MS := (S.1, ((S.2.1.1, (S.2.1.2.1, ((S.2.1.2.2.1.1, v), S.2.1.2.2.2))), S.2.2))
abbrev MS.v_inodes (S : MS) : Int32 := S.2.1.2.2.2.1
def MS.u_v_inodes (S : MS) (v : Int32) : MS := (S.1, ((S.2.1.1, (S.2.1.2.1, (S.2.1.2.2.1, (v, S.2.1.2.2.2.2)))), S.2.2))
abbrev MS.v_rows (S : MS) : Int32 := S.2.1.2.2.2.2
def MS.u_v_rows (S : MS) (v : Int32) : MS := (S.1, ((S.2.1.1, (S.2.1.2.1, (S.2.1.2.2.1, (S.2.1.2.2.2.1, v)))), S.2.2))
abbrev MS.v_blocks (S : MS) : Int32 := S.2.2.1.1.1.1
def MS.u_v_blocks (S : MS) (v : Int32) : MS := (S.1, (S.2.1, ((((v, S.2.2.1.1.1.2), S.2.2.1.1.2), S.2.2.1.2), S.2.2.2)))
abbrev MS.v_fixed (S : MS) : (Nat → Int32) := S.2.2.1.1.1.2
def MS.u_v_fixed (S : MS) (v : (Nat → Int32)) : MS := (S.1, (S.2.1, ((((S.2.2.1.1.1.1, v), S.2.2.1.1.2), S.2.2.1.2), S.2.2.2)))
abbrev MS.v_used (S : MS) : (Nat → Int32) := S.2.2.1.1.2.1
def MS.u_v_used (S : MS) (v : (Nat → Int32)) : MS := (S.1, (S.2.1, (((S.2.2.1.1.1, (v, S.2.2.1.1.2.2)), S.2.2.1.2), S.2.2.2)))
abbrev MS.v_moved (S : MS) : (Nat → Int32) := S.2.2.1.1.2.2
def MS.u_v_moved (S : MS) (v : (Nat → Int32)) : MS := (S.1, (S.2.1, (((S.2.2.1.1.1, (S.2.2.1.1.2.1, v)), S.2.2.1.2), S.2.2.2)))
abbrev MS.v_aimed (S : MS) : (Nat → Int32) := S.2.2.1.2.1.1
def MS.u_v_aimed (S : MS) (v : (Nat → Int32)) : MS := (S.1, (S.2.1, ((S.2.2.1.1, ((v, S.2.2.1.2.1.2), S.2.2.1.2.2)), S.2.2.2)))
abbrev MS.v_built (S : MS) : (Nat → Int32) := S.2.2.1.2.1.2
def MS.u_v_built (S : MS) (v : (Nat → Int32)) : MS := (S.1, (S.2.1, ((S.2.2.1.1, ((S.2.2.1.2.1.1, v), S.2.2.1.2.2)), S.2.2.2)))
abbrev MS.v_fixedBlocks (S : MS) : Int32 := S.2.2.1.2.2.1
def MS.u_v_fixedBlocks (S : MS) (v : Int32) : MS := (S.1, (S.2.1, ((S.2.2.1.1, (S.2.2.1.2.1, (v, S.2.2.1.2.2.2))), S.2.2.2)))
abbrev MS.v_moves (S : MS) : Int32 := S.2.2.1.2.2.2
def MS.u_v_moves (S : MS) (v : Int32) : MS := (S.1, (S.2.1, ((S.2.2.1.1, (S.2.2.1.2.1, (S.2.2.1.2.2.1, v))), S.2.2.2)))
abbrev MS.v_builds (S : MS) : Int32 := S.2.2.2.1.1.1
def MS.u_v_builds (S : MS) (v : Int32) : MS := (S.1, (S.2.1, (S.2.2.1, (((v, S.2.2.2.1.1.2), S.2.2.2.1.2), S.2.2.2.2))))
abbrev MS.v_kept (S : MS) : Int32 := S.2.2.2.1.1.2
def MS.u_v_kept (S : MS) (v : Int32) : MS := (S.1, (S.2.1, (S.2.2.1, (((S.2.2.2.1.1.1, v), S.2.2.2.1.2), S.2.2.2.2))))
abbrev MS.v_next (S : MS) : Int32 := S.2.2.2.1.2.1
def MS.u_v_next (S : MS) (v : Int32) : MS := (S.1, (S.2.1, (S.2.2.1, ((S.2.2.2.1.1, (v, S.2.2.2.1.2.2)), S.2.2.2.2))))
abbrev MS.v_record (S : MS) : (Nat → Int32) := S.2.2.2.1.2.2
def MS.u_v_record (S : MS) (v : (Nat → Int32)) : MS := (S.1, (S.2.1, (S.2.2.1, ((S.2.2.2.1.1, (S.2.2.2.1.2.1, v)), S.2.2.2.2))))
abbrev MS.v_list (S : MS) : (Nat → Int32) := S.2.2.2.2.1.1
def MS.u_v_list (S : MS) (v : (Nat → Int32)) : MS := (S.1, (S.2.1, (S.2.2.1, (S.2.2.2.1, ((v, S.2.2.2.2.1.2), S.2.2.2.2.2)))))
abbrev MS.v_spot (S : MS) : Int32 := S.2.2.2.2.1.2
def MS.u_v_spot (S : MS) (v : Int32) : MS := (S.1, (S.2.1, (S.2.2.1, (S.2.2.2.1, ((S.2.2.2.2.1.1, v), S.2.2.2.2.2)))))
abbrev MS.v_filled (S : MS) : Int32 := S.2.2.2.2.2.1
def MS.u_v_filled (S : MS) (v : Int32) : MS := (S.1, (S.2.1, (S.2.2.1, (S.2.2.2.1, (S.2.2.2.2.1, (v, S.2.2.2.2.2.2))))))
abbrev MS.v_latest (S : MS) : Int32 := S.2.2.2.2.2.2
def MS.u_v_latest (S : MS) (v : Int32) : MS := (S.1, (S.2.1, (S.2.2.1, (S.2.2.2.1, (S.2.2.2.2.1, (S.2.2.2.2.2.1, v))))))
def str_at (cs : List Int32) (q : Int32) : Option Int32 := if lf_in q cs.length then some (cs.getD q.toNatClampNeg 0) else none
def str_ixF (x : Int32) : List Int32 → Int32 → Int32
  | [], _ => -1
  | c :: cs, k => if c = x then k else str_ixF x cs (k + 1)
def str_ix (cs : List Int32) (x : Int32) : Int32 := str_ixF x cs 0
