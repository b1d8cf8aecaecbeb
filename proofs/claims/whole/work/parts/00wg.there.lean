/-! What stands when the fixed blocks are down, and when the power went before. -/
theorem blW_bl {b : Nat} {Y : Nat → Int32} {w : Wr} (h : w ∈ blW b Y) : w.1 / 2 = b := by
  unfold blW at h
  rcases List.mem_cons.mp h with y | y
  · rw [y]; show 2 * b / 2 = b; omega
  · rw [List.mem_singleton.mp y]; show (2 * b + 1) / 2 = b; omega
theorem fgI_bl {N : Nat} {D : Nat → Int32} {fks : List Nat} {its : List It} {A H : Nat} {gl : Nat → Nat} {rm : List Nat} {I mb g r : Nat} {w : Wr} : ∀ n j, j + n ≤ r → w ∈ fgI N D fks its A H gl rm I mb g n j → mb + 2 ≤ w.1 / 2 ∧ w.1 / 2 < mb + 2 + r := by
  intro n
  induction n with
  | zero => intro j _ h; cases h
  | succ n ih =>
    intro j hj h
    rw [fgI] at h
    rcases List.mem_append.mp h with y | y
    · have := blW_bl y
      omega
    · exact ih (j + 1) (by omega) y
theorem fgG_bl {N : Nat} {D : Nat → Int32} {fks : List Nat} {its : List It} {A H B P g0 r fr : Nat} {us : Nat → Prop} {by0 : Nat → Nat} {gl : Nat → Nat} {rm : List Nat} (hm : ∀ g, g < g0 → 3 + g * P ≤ mBk A P g) (hP : 1 ≤ P) {w : Wr} : ∀ n g, g + n ≤ g0 → w ∈ fgG N D fks its A H B P g0 r gl rm us fr by0 n g → fxd A P r g0 (w.1 / 2) ∧ w.1 / 2 ≠ 1 := by
  intro n
  induction n with
  | zero => intro g _ h; cases h
  | succ n ih =>
    intro g hg h
    have h3 := hm g (by omega)
    rw [fgG] at h
    rcases List.mem_append.mp h with y | y
    · by_cases c : g = 0
      · rw [if_pos c] at y; cases y
      · have : P ≤ g * P := Nat.le_mul_of_pos_left _ (by omega)
        rw [if_neg c] at y
        rcases List.mem_append.mp y with v | v
        · have := blW_bl v
          exact ⟨⟨g, by omega, Or.inl this⟩, by omega⟩
        · have := blW_bl v
          exact ⟨⟨g, by omega, Or.inr (Or.inl (by omega))⟩, by omega⟩
    · rcases List.mem_append.mp y with v | v
      · have := blW_bl v
        exact ⟨⟨g, by omega, Or.inr (Or.inr (by omega))⟩, by omega⟩
      · rcases List.mem_append.mp v with u | u
        · have := blW_bl u
          exact ⟨⟨g, by omega, Or.inr (Or.inr (by omega))⟩, by omega⟩
        · rcases List.mem_append.mp u with t | t
          · have := fgI_bl (r := r) _ _ (by omega) t
            exact ⟨⟨g, by omega, Or.inr (Or.inr (by omega))⟩, by omega⟩
          · exact ih (g + 1) (by omega) t
noncomputable def fxR (N : Nat) (D : Nat → Int32) (fks : List Nat) (its : List It) (A H B P g0 r : Nat) (gl : Nat → Nat) (rm : List Nat) (us : Nat → Prop) (fr : Nat) (by0 : Nat → Nat) : List Wr := fgG N D fks its A H B P g0 r gl rm us fr by0 g0 0 ++ (blW 2 (dsX Zd (mBk A P) (frB us B P g0) (frI (8 * r) (10 + its.length)) (dgN D its (8 * r)) g0) ++ [(3, fun j => sbL Zd (g0 * (8 * r)) B fr (g0 * (8 * r) - (10 + its.length)) P (8 * r) 0 (o4 D 67) by0 (512 + j))])
theorem fxL_eq {N : Nat} {D : Nat → Int32} {fks : List Nat} {its : List It} {A H B P g0 r fr : Nat} {us : Nat → Prop} {by0 : Nat → Nat} {gl : Nat → Nat} {rm : List Nat} : fxL N D fks its A H B P g0 r gl rm us fr by0 = fxR N D fks its A H B P g0 r gl rm us fr by0 ++ [(2, sbL Zd (g0 * (8 * r)) B fr (g0 * (8 * r) - (10 + its.length)) P (8 * r) 0 (o4 D 67) by0)] := by
  unfold fxL fxR
  rw [List.append_assoc, List.append_assoc]
  rfl
theorem fxR_bl {N : Nat} {D : Nat → Int32} {fks : List Nat} {its : List It} {A H k B P g0 r to fr : Nat} {us : Nat → Prop} {by0 : Nat → Nat} {gl : Nat → Nat} {rm : List Nat} (h : pPl N D fks its A H k B P g0 r to gl) : ∀ w ∈ fxR N D fks its A H B P g0 r gl rm us fr by0, fxd A P r g0 (w.1 / 2) ∧ w.1 ≠ 2 := by
  have hu := h.2.2.1
  have hg1 : 1 ≤ g0 := by
    have h1 := hu.1.2.2.2.2.2.1
    have h2 := hu.1.2.2.2.1
    rcases hu.1.2.2.2.2.1 with q | q | q <;> rw [q] at h1 <;> omega
  have hP : 1 ≤ P := by rcases hu.1.2.2.2.2.1 with q | q | q <;> omega
  intro w hw
  unfold fxR at hw
  rcases List.mem_append.mp hw with y | y
  · have := fgG_bl (fun g hg => (gr_in hu.1 hg (hu.2.1.1 g hg)).2.2.2.2) hP g0 0 (by omega) y
    exact ⟨this.1, fun e => by have := this.2; omega⟩
  · rcases List.mem_append.mp y with v | v
    · have := blW_bl v
      exact ⟨⟨0, hg1, Or.inr (Or.inl (by omega))⟩, fun e => by omega⟩
    · rw [List.mem_singleton.mp v]
      exact ⟨⟨0, hg1, Or.inl (by show 3 / 2 = _; omega)⟩, show (3 : Nat) ≠ 2 by decide⟩
theorem fx_after {N : Nat} {D : Nat → Int32} {fks : List Nat} {its : List It} {A H k B P g0 r to fr : Nat} {us : Nat → Prop} {by0 : Nat → Nat} {gl : Nat → Nat} {E F : Nat → Int32} {p : Option Nat} (h : pPl N D fks its A H k B P g0 r to gl) (hF : agW F (fxL N D fks its A H B P g0 r gl (rml A H (fxd A P r g0) (ent D) gl k) us fr by0)) (hE : dM N D fks its A H k P g0 r gl E) (h2 : sec2 D E) : dM N D fks its A H k P g0 r gl (ApL p (fxL N D fks its A H B P g0 r gl (rml A H (fxd A P r g0) (ent D) gl k) us fr by0) E) ∧ ((∃ w, p = some w ∧ w < (fxL N D fks its A H B P g0 r gl (rml A H (fxd A P r g0) (ent D) gl k) us fr by0).length) → sec2 D (ApL p (fxL N D fks its A H B P g0 r gl (rml A H (fxd A P r g0) (ent D) gl k) us fr by0) E)) ∧ ((∀ w, p = some w → (fxL N D fks its A H B P g0 r gl (rml A H (fxd A P r g0) (ent D) gl k) us fr by0).length ≤ w) → agW (ApL p (fxL N D fks its A H B P g0 r gl (rml A H (fxd A P r g0) (ent D) gl k) us fr by0) E) (fxL N D fks its A H B P g0 r gl (rml A H (fxd A P r g0) (ent D) gl k) us fr by0)) := by
  have hu := h.2.2.1
  have hg1 : 1 ≤ g0 := by
    have h1 := hu.1.2.2.2.2.2.1
    have h2 := hu.1.2.2.2.1
    rcases hu.1.2.2.2.2.1 with q | q | q <;> rw [q] at h1 <;> omega
  have hbl := fxR_bl (fr := fr) (us := us) (by0 := by0) (rm := rml A H (fxd A P r g0) (ent D) gl k) h
  refine ⟨?_, fun ⟨w, e, hw⟩ => ?_, fun hp => ApL_ag _ E p hp (fun w hw v hv e j hj => by rw [← hF w hw j hj, ← hF v hv j hj, e])⟩
  · refine ApL_J dM_ok _ p E (fun w hw E' hE' => dM_fix h ?_ hE') hE
    rw [fxL_eq] at hw
    rcases List.mem_append.mp hw with y | y
    · exact (hbl w y).1
    · rw [List.mem_singleton.mp y]
      exact ⟨0, hg1, Or.inl (by show 2 / 2 = _; omega)⟩
  · rw [e]
    rw [fxL_eq, List.length_append, List.length_singleton] at hw
    rw [fxL_eq, ApL_app, show pR (some w) (fxR N D fks its A H B P g0 r gl (rml A H (fxd A P r g0) (ent D) gl k) us fr by0).length = some 0 from congrArg some (by omega), ApL_off]
    intro q q1 q2
    rw [ApL_out _ _ _ q (fun v hv => by have := (hbl v hv).2; omega)]
    exact h2 q q1 q2
