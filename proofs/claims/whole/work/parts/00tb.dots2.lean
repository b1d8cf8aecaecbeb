/-! make: the two first entries of a new directory, the same on both sides. -/
theorem dtM_out {X : Nat → Int32} {p i c q : Nat} (h : q < p ∨ p + 32 ≤ q) : o1 (dtM X p i c) q = o1 X q := by
  unfold dtM
  rw [st_out (by omega), st_out (by omega), st_out (by omega), nmW_out 11 (by omega)]
theorem dtM_in {X : Nat → Int32} {p i c q : Nat} (hc : c < 65536) (h0 : ∀ q, p ≤ q → q < p + 32 → o1 X q = 0) (h1 : p ≤ q) (h2 : q < p + 32) : o1 (dtM X p i c) q = o1 (enA (nmW Zd p (dnm i) 11) p 16 c) q := by
  have hb : o1 (nmW X p (dnm i) 11) q = o1 (nmW Zd p (dnm i) 11) q := nmW_ag (by rw [h0 q h1 h2, Zd_o]) 11
  unfold dtM enA
  rw [st_o1, st_o1, st_o1, st_o1, st_o1, st_o1, st_o1, hb]
  by_cases a : p + 26 ≤ q ∧ q < p + 26 + 2
  · rw [if_pos a, if_pos a]
  rw [if_neg a, if_neg a]
  by_cases b : p + 20 ≤ q ∧ q < p + 20 + 2
  · rw [if_pos b, if_neg (by omega), if_neg (by omega), nmW_out 11 (by omega), Zd_o, Nat.div_eq_of_lt hc, Nat.zero_div]
  · rw [if_neg b]
theorem enW_out {X : Nat → Int32} {p i c q : Nat} (h : q < p ∨ p + 32 ≤ q) : o1 (enA (nmW X p (dnm i) 11) p 16 c) q = o1 X q := by
  rw [enA_out (by omega), nmW_out 11 (by omega)]
theorem enW_in {X : Nat → Int32} {p i c q : Nat} (h0 : ∀ q, p ≤ q → q < p + 32 → o1 X q = 0) (h1 : p ≤ q) (h2 : q < p + 32) : o1 (enA (nmW X p (dnm i) 11) p 16 c) q = o1 (enA (nmW Zd p (dnm i) 11) p 16 c) q := enA_ag (nmW_ag (by rw [h0 q h1 h2, Zd_o]) 11)
/-- what stands in the first two slots of a new directory -/
abbrev dotX (p o h : Nat) (X F : Nat → Int32) : Prop := (∀ q, p ≤ q → q < p + 32 → o1 F q = o1 (enA (nmW Zd p (dnm 0) 11) p 16 o) q) ∧ (∀ q, p + 32 ≤ q → q < p + 32 + 32 → o1 F q = o1 (enA (nmW Zd (p + 32) (dnm 1) 11) (p + 32) 16 h) q) ∧ (∀ q, q < p ∨ p + 64 ≤ q → o1 F q = o1 X q)
theorem dot_M {X : Nat → Int32} {p o h : Nat} (ho : o < 65536) (hh : h < 65536) (h0 : ∀ q, p ≤ q → q < p + 64 → o1 X q = 0) : dotX p o h X (dtM (dtM X p 0 o) (p + 32) 1 h) := by
  refine ⟨fun q a b => ?_, fun q a b => ?_, fun q a => ?_⟩
  · rw [dtM_out (by omega)]
    exact dtM_in ho (fun q a b => h0 q a (by omega)) a b
  · exact dtM_in hh (fun q a b => by rw [dtM_out (by omega)]; exact h0 q (by omega) (by omega)) a b
  · rw [dtM_out (by omega), dtM_out (by omega)]
theorem dot_C {X : Nat → Int32} {p o h : Nat} (h0 : ∀ q, p ≤ q → q < p + 64 → o1 X q = 0) : dotX p o h X (enA (nmW (enA (nmW X p (dnm 0) 11) p 16 o) (p + 32) (dnm 1) 11) (p + 32) 16 h) := by
  refine ⟨fun q a b => ?_, fun q a b => ?_, fun q a => ?_⟩
  · rw [enW_out (by omega)]
    exact enW_in (fun q a b => h0 q a (by omega)) a b
  · exact enW_in (fun q a b => by rw [enW_out (by omega)]; exact h0 q (by omega) (by omega)) a b
  · rw [enW_out (by omega), enW_out (by omega)]
theorem dot_read {F : Nat → Int32} {p i c : Nat} (hc : c < 65536) (h : ∀ q, p ≤ q → q < p + 32 → o1 F q = o1 (enA (nmW Zd p (dnm i) 11) p 16 c) q) : (∀ q, q < 11 → o1 F (p + q) = dnm i q) ∧ o1 F (p + 11) = 16 ∧ fc F p = c := by
  obtain ⟨r0, r1, -, -, -, -, -, -, r8, -⟩ := entry_read (a := 16) (o := c) (by decide) (by omega) (fun q _ => by unfold dnm; split <;> decide) h
  exact ⟨r0, r1, r8⟩
/-! the end of the directory -/
theorem emF_o1 {X : Nat → Int32} {c : Prop} [Decidable c] {q r : Nat} : o1 (emF X c q) r = if c ∧ r = q then 0 else o1 X r := by
  unfold emF
  by_cases w : c
  · rw [if_pos w, st_o1]
    by_cases e : r = q
    · rw [if_pos (by omega), if_pos ⟨w, e⟩, Nat.zero_div]
    · rw [if_neg (by omega), if_neg (fun y => e y.2)]
  · rw [if_neg w, if_neg (fun y => w y.1)]
