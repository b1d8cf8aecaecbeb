/-! The goals are one way only. -/
theorem fsA_u {A H k : Nat} {fx : Nat → Prop} {e : Nat → Nat} {s t t' : Nat} (h : fsA A H k fx e s t) (h' : fsA A H k fx e s t') : t = t' := by
  rcases Nat.lt_trichotomy t t' with c | c | c
  · exact absurd h.2.2.1 (h'.2.2.2 t h.1 c)
  · exact c
  · exact absurd h'.2.2.1 (h.2.2.2 t' h'.1 c)
theorem aimR_u {A H k : Nat} {fx : Nat → Prop} {e : Nat → Nat} : ∀ n to gl to' gl', aimR A H k fx e n to gl → aimR A H k fx e n to' gl' → to = to' ∧ gl = gl' := by
  intro n
  induction n with
  | zero =>
    intro to gl to' gl' h h'
    exact ⟨h.1.trans h'.1.symm, h.2.trans h'.2.symm⟩
  | succ n ih =>
    intro to gl to' gl' h h'
    obtain ⟨t0, g0, a1, a2⟩ := h
    obtain ⟨t0', g0', b1, b2⟩ := h'
    obtain ⟨e1, e2⟩ := ih _ _ _ _ a1 b1
    subst e1 e2
    rcases a2 with ⟨x1, x2, x3⟩ | ⟨x1, t, x2, x3, x4⟩
    · rcases b2 with ⟨y1, y2, y3⟩ | ⟨y1, t', y2, y3, y4⟩
      · exact ⟨x2.trans y2.symm, x3.trans y3.symm⟩
      · exact absurd y1 x1
    · rcases b2 with ⟨y1, y2, y3⟩ | ⟨y1, t', y2, y3, y4⟩
      · exact absurd x1 y1
      · have e3 := fsA_u x2 y2
        subst e3
        exact ⟨x3.trans y3.symm, x4.trans y4.symm⟩
