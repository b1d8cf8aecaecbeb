/-! All elements of the disk's array and of the turner's block are bytes: kept by every method (printed by wip/gen/byt.py). -/
abbrev byt (S : CS) : Prop := (∀ q, fits .byte (.int (S.w_Dk_bytes q)) = true) ∧ ∀ q, fits .byte (.int (S.w_Tu_block q)) = true
def bG {β : Type} (pr : β → CS) (o : Option β) : Prop := ∀ x, o = some x → byt (pr x)
theorem g_none {β : Type} {pr : β → CS} : bG pr none := fun _ h => by cases h
theorem g_some {β : Type} {pr : β → CS} {x : β} (h : byt (pr x)) : bG pr (some x) := fun y e => by cases e; exact h
theorem g_if {β : Type} {pr : β → CS} {c : Prop} [Decidable c] {a b : Option β} (ha : bG pr a) (hb : bG pr b) : bG pr (if c then a else b) := by
  by_cases w : c
  · rw [if_pos w]; exact ha
  · rw [if_neg w]; exact hb
theorem g_g {β : Type} {pr : β → CS} {c : Prop} [Decidable c] {a : Option β} (ha : bG pr a) : bG pr (lf_g c a) := g_if ha g_none
theorem g_ls {β : Type} {pr : β → CS} {S : CS} {f : CS → Option β} (h : byt S) (hf : ∀ S, byt S → bG pr (f S)) : bG pr (lf_l S f) := hf S h
theorem g_lv {α β : Type} {pr : β → CS} {v : α} {f : α → Option β} (hf : ∀ v, bG pr (f v)) : bG pr (lf_l v f) := hf v
theorem g_c {ρ β : Type} {pr : β → CS} {a : Option (ρ × CS)} {f : ρ → CS → Option β} (ha : bG Prod.snd a) (hf : ∀ r S, byt S → bG pr (f r S)) : bG pr (lf_c a f) := by
  cases a with
  | none => exact g_none
  | some x => exact hf x.1 x.2 (ha x rfl)
theorem g_b {β : Type} {pr : β → CS} {a : Option CS} {f : CS → Option β} (ha : bG id a) (hf : ∀ S, byt S → bG pr (f S)) : bG pr (a.bind f) := by
  cases a with
  | none => exact g_none
  | some x => exact hf x (ha x rfl)
theorem g_p {α β : Type} {pr : β → CS} {a : Option α} {f : α → Option β} (hf : ∀ r, bG pr (f r)) : bG pr (a.bind f) := by
  cases a with
  | none => exact g_none
  | some x => exact hf x
theorem g_n {α β : Type} {pr : β → CS} {a : Option (α × CG × CS)} {f : α → CG → CS → Option β} (ha : bG (fun x => x.2.2) a) (hf : ∀ r G S, byt S → bG pr (f r G S)) : bG pr (lf_n a f) := by
  cases a with
  | none => exact g_none
  | some x => exact hf x.1 x.2.1 x.2.2 (ha x rfl)
theorem g_a {α β : Type} {a : Option (Except Nat α × CG × CS)} {f : α → CG → CS → Option (Except Nat β × CG × CS)} (ha : bG (fun x => x.2.2) a) (hf : ∀ r G S, byt S → bG (fun x => x.2.2) (f r G S)) : bG (fun x => x.2.2) (lf_a a f) := by
  cases a with
  | none => exact g_none
  | some x =>
    obtain ⟨r, G, S⟩ := x
    cases r with
    | error k =>
      have h : byt S := ha (Except.error k, G, S) rfl
      exact g_some (pr := fun x : Except Nat β × CG × CS => x.2.2) (x := (Except.error k, G, S)) h
    | ok r =>
      have h : byt S := ha (Except.ok r, G, S) rfl
      exact hf r G S h
theorem byt_nar {x : Int32} : fits .byte (.int (vp_nar .byte x)) = true := by
  rw [vp_nar_byte]
  exact pk_fb _
theorem byt_u {f : Nat → Int32} {i : Nat} {x : Int32} (h : ∀ q, fits .byte (.int (f q)) = true) : ∀ q, fits .byte (.int (upd f i (vp_nar .byte x) q)) = true := fun q => by
  by_cases w : q = i
  · rw [w, pk_us]; exact byt_nar
  · rw [pk_un w]; exact h q
theorem byt_f {f : Nat → Int32} {a b : Nat} {x : Int32} (h : ∀ q, fits .byte (.int (f q)) = true) : ∀ q, fits .byte (.int (ar_fill f a b (vp_nar .byte x) q)) = true := fun q => by
  unfold ar_fill
  split
  · exact byt_nar
  · exact h q
theorem byt_c {f g : Nat → Int32} {a b n : Nat} (h : ∀ q, fits .byte (.int (f q)) = true) (h' : ∀ q, fits .byte (.int (g q)) = true) : ∀ q, fits .byte (.int (va_cpy f g a b n q)) = true := fun q => by
  unfold va_cpy
  split
  · exact h _
  · exact h' q
theorem byt_Du {S : CS} {i : Nat} {x : Int32} (h : byt S) : byt (S.u_w_Dk_bytes (upd S.w_Dk_bytes i (vp_nar .byte x))) := ⟨byt_u h.1, h.2⟩
theorem byt_Df {S : CS} {a b : Nat} {x : Int32} (h : byt S) : byt (S.u_w_Dk_bytes (ar_fill S.w_Dk_bytes a b (vp_nar .byte x))) := ⟨byt_f h.1, h.2⟩
theorem byt_Dc {S : CS} {a b n : Nat} (h : byt S) : byt (S.u_w_Dk_bytes (va_cpy S.w_Tu_block S.w_Dk_bytes a b n)) := ⟨byt_c h.2 h.1, h.2⟩
theorem byt_Bu {S : CS} {i : Nat} {x : Int32} (h : byt S) : byt (S.u_w_Tu_block (upd S.w_Tu_block i (vp_nar .byte x))) := ⟨h.1, byt_u h.2⟩
theorem byt_Bf {S : CS} {a b : Nat} {x : Int32} (h : byt S) : byt (S.u_w_Tu_block (ar_fill S.w_Tu_block a b (vp_nar .byte x))) := ⟨h.1, byt_f h.2⟩
theorem byt_Bc {S : CS} {a b n : Nat} (h : byt S) : byt (S.u_w_Tu_block (va_cpy S.w_Dk_bytes S.w_Tu_block a b n)) := ⟨h.1, byt_c h.1 h.2⟩
