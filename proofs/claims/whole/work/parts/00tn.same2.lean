/-! make: both disks alike after it. -/
theorem sl_same {P : Nat → Nat} {W m a o q : Nat} {nm : Nat → Nat} {us : List Nat} {X F Xe Fe : Nat → Int32} (hW : 1 ≤ W) (h : slX P W m nm a o us X F) (he : slX P W m nm a o us Xe Fe) (hq : o1 Xe q = o1 X q ∨ ∃ i, i < W ∧ inS P i q) : o1 Fe q = o1 F q := by
  by_cases w : ∃ i, i < W ∧ inS P i q
  · obtain ⟨i, i1, i2⟩ := w
    by_cases c : i + 1 < W
    · rw [h.1 i c q i2, he.1 i c q i2]
    · obtain rfl : i = W - 1 := by omega
      rw [h.2.1 q i2, he.2.1 q i2]
  · have hn : ∀ i, i < W → ¬ inS P i q := fun i i1 i2 => w ⟨i, i1, i2⟩
    rw [h.2.2 q hn, he.2.2 q hn]
    exact hq.resolve_right w
theorem all_same {P : Nat → Nat} {W m a o em dr p hh : Nat} {nm : Nat → Nat} {us : List Nat} {c c' : Prop} {X F Xe Fe : Nat → Int32} (hW : 1 ≤ W) (h : allX P W m nm a o us c em dr p hh X F) (he : allX P W m nm a o us c' em dr p hh Xe Fe) (hem : ∀ i, i < W → ¬ inS P i em) (hc : ¬ (c ↔ c') → o1 X em = 0 ∧ o1 Xe em = 0) {q : Nat} (hq : o1 Xe q = o1 X q ∨ (∃ i, i < W ∧ inS P i q) ∨ (dr = 1 ∧ p ≤ q ∧ q < p + 64)) : o1 Fe q = o1 F q := by
  obtain ⟨F1, F2, h1, h2, h3⟩ := h
  obtain ⟨E1, E2, e1, e2, e3⟩ := he
  have mid : (o1 Xe q = o1 X q ∨ ∃ i, i < W ∧ inS P i q) → o1 E2 q = o1 F2 q := fun w => by
    have s := sl_same hW h1 e1 w
    rw [h2 q, e2 q]
    by_cases g : q = em
    · by_cases k : c ↔ c'
      · by_cases u : c
        · rw [if_pos ⟨k.mp u, g⟩, if_pos ⟨u, g⟩]
        · rw [if_neg (fun y => u (k.mpr y.1)), if_neg (fun y => u y.1)]
          exact s
      · obtain ⟨z1, z2⟩ := hc k
        have f0 : o1 F1 q = 0 := by rw [g, h1.2.2 em hem]; exact z1
        have f1 : o1 E1 q = 0 := by rw [g, e1.2.2 em hem]; exact z2
        rw [f0, f1]
        split <;> split <;> rfl
    · rw [if_neg (fun y => g y.2), if_neg (fun y => g y.2)]
      exact s
  rcases h3 with ⟨d, rfl⟩ | ⟨d, d1, d2, d3⟩
  · rcases e3 with ⟨-, rfl⟩ | ⟨d', -⟩
    · refine mid ?_
      rcases hq with w | w | w
      · exact Or.inl w
      · exact Or.inr w
      · omega
    · omega
  · rcases e3 with ⟨d', -⟩ | ⟨-, g1, g2, g3⟩
    · omega
    · by_cases r : p ≤ q ∧ q < p + 64
      · by_cases r2 : q < p + 32
        · rw [d1 q r.1 r2, g1 q r.1 r2]
        · rw [d2 q (by omega) (by omega), g2 q (by omega) (by omega)]
      · rw [d3 q (by omega), g3 q (by omega)]
        refine mid ?_
        rcases hq with w | w | w
        · exact Or.inl w
        · exact Or.inr w
        · exact absurd w.2 r
