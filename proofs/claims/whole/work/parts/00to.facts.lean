/-! make: what the tree asks of the bytes laid. -/
theorem all_laid {P : Nat → Nat} {W m a o em dr p hh : Nat} {nm : Nat → Nat} {us : List Nat} {c : Prop} {X F : Nat → Int32} (hW : 1 ≤ W) (h : allX P W m nm a o us c em dr p hh X F) (hem : ∀ i, i < W → ¬ inS P i em) (hdt : dr = 1 → ∀ i q, i < W → inS P i q → q < p ∨ p + 64 ≤ q) : laid P W m nm a o us F := by
  obtain ⟨F1, F2, h1, h2, h3⟩ := h
  have key : ∀ i q, i < W → inS P i q → o1 F q = o1 F1 q := fun i q i1 i2 => by
    have e2 : o1 F2 q = o1 F1 q := by
      rw [h2 q, if_neg (fun y => hem i i1 (by rw [← y.2]; exact i2))]
    rcases h3 with ⟨-, rfl⟩ | ⟨d, -, -, d3⟩
    · exact e2
    · rw [d3 q (hdt d i q i1 i2), e2]
  exact ⟨fun i hi q hq => by rw [key i q (by omega) hq]; exact h1.1 i hi q hq, fun q hq => by rw [key (W - 1) q (by omega) hq]; exact h1.2.1 q hq⟩
theorem all_out {P : Nat → Nat} {W m a o em dr p hh q : Nat} {nm : Nat → Nat} {us : List Nat} {c : Prop} {X F : Nat → Int32} (h : allX P W m nm a o us c em dr p hh X F) (h1 : ∀ i, i < W → ¬ inS P i q) (h2 : c → q ≠ em) (h3 : dr = 1 → q < p ∨ p + 64 ≤ q) : o1 F q = o1 X q := by
  obtain ⟨F1, F2, g1, g2, g3⟩ := h
  have e2 : o1 F2 q = o1 X q := by
    rw [g2 q, if_neg (fun y => h2 y.1 y.2), g1.2.2 q h1]
  rcases g3 with ⟨-, rfl⟩ | ⟨d, -, -, d3⟩
  · exact e2
  · rw [d3 q (h3 d), e2]
theorem all_zero {P : Nat → Nat} {W m a o em dr p hh q : Nat} {nm : Nat → Nat} {us : List Nat} {c : Prop} {X F : Nat → Int32} (h : allX P W m nm a o us c em dr p hh X F) (h1 : ∀ i, i < W → ¬ inS P i q) (h2 : (c ∧ q = em) ∨ o1 X q = 0) (h3 : dr = 1 → q < p ∨ p + 64 ≤ q) : o1 F q = 0 := by
  obtain ⟨F1, F2, g1, g2, g3⟩ := h
  have e2 : o1 F2 q = 0 := by
    rw [g2 q]
    by_cases w : c ∧ q = em
    · rw [if_pos w]
    · rw [if_neg w, g1.2.2 q h1]
      exact h2.resolve_left w
  rcases g3 with ⟨-, rfl⟩ | ⟨d, -, -, d3⟩
  · exact e2
  · rw [d3 q (h3 d), e2]
theorem all_dots {P : Nat → Nat} {W m a o em p hh : Nat} {nm : Nat → Nat} {us : List Nat} {c : Prop} {X F : Nat → Int32} (h : allX P W m nm a o us c em 1 p hh X F) (ho : o < 65536) (hh0 : hh < 65536) : ∀ s, s < 2 → (∀ q, q < 11 → o1 F (p + 32 * s + q) = dnm s q) ∧ o1 F (p + 32 * s + 11) = 16 ∧ fc F (p + 32 * s) = (if s = 0 then o else hh) := by
  obtain ⟨F1, F2, g1, g2, g3⟩ := h
  rcases g3 with ⟨d, -⟩ | ⟨-, d1, d2, d3⟩
  · omega
  intro s hs
  by_cases w : s = 0
  · rw [w, Nat.mul_zero, Nat.add_zero, if_pos rfl]
    exact dot_read ho d1
  · obtain rfl : s = 1 := by omega
    rw [Nat.mul_one, if_neg (by decide)]
    exact dot_read hh0 d2
