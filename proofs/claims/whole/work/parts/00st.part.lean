/-! make: what a part that was laid says when it is read. -/
theorem puN_no {X : Nat → Int32} {p r : Nat} {v : Nat → Nat} (h : r = 0 ∨ r = 11 ∨ r = 12 ∨ r = 13 ∨ r = 26 ∨ r = 27) : ∀ i, i ≤ 13 → o1 (puN X p v i) (p + r) = o1 X (p + r) := by
  intro i
  induction i with
  | zero => intro _; rfl
  | succ i ih =>
    intro hi
    have : r < uAt i ∨ uAt i + 2 ≤ r := by
      unfold uAt
      split
      · omega
      · split <;> omega
    rw [puN, st_out (by omega), ih (by omega)]
theorem uAt_ne {i j : Nat} (hi : i < 13) (hj : j < 13) (h : i ≠ j) : uAt i + 2 ≤ uAt j ∨ uAt j + 2 ≤ uAt i := by
  unfold uAt
  split <;> split <;> (try split) <;> (try split) <;> omega
theorem puN_at {X : Nat → Int32} {p j : Nat} {v : Nat → Nat} (hj : j < 13) : ∀ i, i ≤ 13 → j < i → o1 (puN X p v i) (p + uAt j) = v j % 256 ∧ o1 (puN X p v i) (p + uAt j + 1) = v j / 256 % 256 := by
  intro i
  induction i with
  | zero => intro _ h; omega
  | succ i ih =>
    intro hi h
    rw [puN]
    by_cases c : j = i
    · rw [c, st_o1, st_o1, if_pos (by omega), if_pos (by omega), Nat.sub_self, show p + uAt i + 1 - (p + uAt i) = 1 by omega, Nat.pow_zero, Nat.div_one, Nat.pow_one]
      exact ⟨rfl, rfl⟩
    · have := uAt_ne hj (show i < 13 by omega) c
      rw [st_out (by omega), st_out (by omega)]
      exact ih (by omega) (by omega)
/-- what is read in a slot in which a part was laid -/
theorem part_read {F : Nat → Int32} {p a m : Nat} {v : Nat → Nat} (ha : a < 256) (hm : m < 256) (hv : ∀ q, q < 13 → v q < 65536) (h : ∀ q, p ≤ q → q < p + 32 → o1 F q = o1 (ptF Zd p a m v) q) : o1 F p = a ∧ o1 F (p + 11) = 15 ∧ o1 F (p + 12) = 0 ∧ o1 F (p + 13) = m ∧ o2 F (p + 26) = 0 ∧ chunk F p = (List.range 13).map v := by
  have b : ∀ r, (r = 0 ∨ r = 11 ∨ r = 12 ∨ r = 13 ∨ r = 26 ∨ r = 27) → o1 F (p + r) = o1 (st (st (st Zd p a 1) (p + 11) 15 1) (p + 13) m 1) (p + r) := fun r hr => by
    rw [h (p + r) (by omega) (by omega)]
    unfold ptF
    exact puN_no hr 13 (Nat.le_refl _)
  refine ⟨?_, ?_, ?_, ?_, ?_, ?_⟩
  · have := b 0 (by omega)
    rw [Nat.add_zero] at this
    rw [this, st_out (by omega), st_out (by omega), st_o1, if_pos (by omega), Nat.sub_self, Nat.pow_zero, Nat.div_one, Nat.mod_eq_of_lt ha]
  · rw [b 11 (by omega), st_out (by omega), st_o1, if_pos (by omega), Nat.sub_self]
  · rw [b 12 (by omega), st_out (by omega), st_out (by omega), st_out (by omega), Zd_o]
  · rw [b 13 (by omega), st_o1, if_pos (by omega), Nat.sub_self, Nat.pow_zero, Nat.div_one, Nat.mod_eq_of_lt hm]
  · unfold o2
    rw [b 26 (by omega), show p + 26 + 1 = p + 27 from rfl, b 27 (by omega), st_out (by omega), st_out (by omega), st_out (by omega), st_out (by omega), st_out (by omega), st_out (by omega), Zd_o, Zd_o]
  · unfold chunk
    refine List.map_congr_left fun q hq => ?_
    have hq : q < 13 := List.mem_range.mp hq
    have hu := uAt_le hq
    have hvq := hv q hq
    unfold o2
    rw [h (p + uAt q) (by omega) (by omega), h (p + uAt q + 1) (by omega) (by omega)]
    unfold ptF
    obtain ⟨c1, c2⟩ := puN_at (X := st (st (st Zd p a 1) (p + 11) 15 1) (p + 13) m 1) (p := p) (v := v) hq 13 (Nat.le_refl _) hq
    rw [c1, c2]
    omega
/-- what is read in a slot in which an entry was laid -/
theorem entry_read {F : Nat → Int32} {p a o : Nat} {nm : Nat → Nat} (ha : a < 256) (ho : o < 65536 * 256) (hnm : ∀ q, q < 11 → nm q < 256) (h : ∀ q, p ≤ q → q < p + 32 → o1 F q = o1 (enA (nmW Zd p nm 11) p a o) q) : (∀ q, q < 11 → o1 F (p + q) = nm q) ∧ o1 F (p + 11) = a ∧ o1 F (p + 13) = 0 ∧ o2 F (p + 14) = 0 ∧ o2 F (p + 16) = 0 ∧ o2 F (p + 18) = 0 ∧ o2 F (p + 22) = 0 ∧ o2 F (p + 24) = 33 ∧ fc F p = o ∧ o4 F (p + 28) = 0 := by
  have z : ∀ r, 11 ≤ r → o1 (nmW Zd p nm 11) (p + r) = 0 := fun r hr => by rw [nmW_out 11 (by omega), Zd_o]
  have v : ∀ r, r < 32 → o1 F (p + r) = o1 (enA (nmW Zd p nm 11) p a o) (p + r) := fun r hr => h (p + r) (by omega) (by omega)
  have b : ∀ r, 11 ≤ r → r < 32 → o1 F (p + r) = (if 26 ≤ r ∧ r < 26 + 2 then o / 256 ^ (r - 26) % 256 else if 20 ≤ r ∧ r < 20 + 2 then o / 65536 / 256 ^ (r - 20) % 256 else if 24 ≤ r ∧ r < 24 + 2 then 33 / 256 ^ (r - 24) % 256 else if 11 ≤ r ∧ r < 11 + 1 then a / 256 ^ (r - 11) % 256 else 0) := fun r h1 h2 => by
    rw [v r h2]
    unfold enA
    rw [st_sh, st_sh, st_sh, st_sh, z r h1]
  refine ⟨fun q hq => ?_, ?_, ?_, ?_, ?_, ?_, ?_, ?_, ?_, ?_⟩
  · rw [v q (by omega), enA_out (by omega), nmW_at (hnm q hq) 11 hq]
  · rw [b 11 (by omega) (by omega)]
    simp
    omega
  · rw [b 13 (by omega) (by omega)]
    simp
  · unfold o2
    rw [b 14 (by omega) (by omega), show p + 14 + 1 = p + 15 from rfl, b 15 (by omega) (by omega)]
    simp
  · unfold o2
    rw [b 16 (by omega) (by omega), show p + 16 + 1 = p + 17 from rfl, b 17 (by omega) (by omega)]
    simp
  · unfold o2
    rw [b 18 (by omega) (by omega), show p + 18 + 1 = p + 19 from rfl, b 19 (by omega) (by omega)]
    simp
  · unfold o2
    rw [b 22 (by omega) (by omega), show p + 22 + 1 = p + 23 from rfl, b 23 (by omega) (by omega)]
    simp
  · unfold o2
    rw [b 24 (by omega) (by omega), show p + 24 + 1 = p + 25 from rfl, b 25 (by omega) (by omega)]
    simp
  · unfold fc o2
    rw [b 20 (by omega) (by omega), show p + 20 + 1 = p + 21 from rfl, b 21 (by omega) (by omega), b 26 (by omega) (by omega), show p + 26 + 1 = p + 27 from rfl, b 27 (by omega) (by omega)]
    simp
    omega
  · unfold o4 o2
    rw [b 28 (by omega) (by omega), show p + 28 + 1 = p + 29 from rfl, b 29 (by omega) (by omega), show p + 28 + 2 = p + 30 from rfl, b 30 (by omega) (by omega), show p + 30 + 1 = p + 31 from rfl, b 31 (by omega) (by omega)]
    simp
theorem day33 : dayP (nI 33) := by unfold dayP; decide
theorem tim0 : timP (nI 0) := by unfold timP; decide
theorem mad0 : madP (nI 0) (nI 0) (nI 0) := by unfold madP; decide
theorem entry_days {F : Nat → Int32} {p : Nat} (h1 : o1 F (p + 13) = 0) (h2 : o2 F (p + 14) = 0) (h3 : o2 F (p + 16) = 0) (h4 : o2 F (p + 18) = 0) (h5 : o2 F (p + 22) = 0) (h6 : o2 F (p + 24) = 33) : daysP F p := by
  unfold daysP
  rw [h1, h2, h3, h4, h5, h6]
  exact ⟨mad0, Or.inl rfl, day33, tim0⟩
