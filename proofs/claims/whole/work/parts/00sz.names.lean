/-! make: the short names that are laid are short names. -/
abbrev shX (nm : Nat → Nat) (x y : Nat) : Prop := 1 ≤ x ∧ x ≤ 8 ∧ y ≤ 3 ∧ (∀ q, q < x → sgP (nm q)) ∧ (∀ q, x ≤ q → q < 8 → nm q = 32) ∧ (∀ q, 8 ≤ q → q < 8 + y → sgP (nm q)) ∧ (∀ q, 8 + y ≤ q → q < 11 → nm q = 32)
theorem sh_of {F : Nat → Int32} {p x y : Nat} {nm : Nat → Nat} (h : shX nm x y) (hF : ∀ q, q < 11 → o1 F (p + q) = nm q) : shP F p ((0 : Nat) = 1) := by
  obtain ⟨h1, h2, h3, h4, h5, h6, h7⟩ := h
  have n32 : ∀ q, sgP (nm q) → nm q ≠ 32 := fun q w e => sg32 (by rw [← e]; exact w)
  refine ⟨?_, fun q hq => ⟨?_, ?_⟩⟩
  · have := hF 0 (by omega)
    rw [Nat.add_zero] at this
    rw [this]
    exact n32 0 (h4 0 (by omega))
  · rw [hF q hq]
    by_cases a : q < x
    · exact Or.inr (h4 q a)
    by_cases b : q < 8
    · exact Or.inl (h5 q (by omega) b)
    by_cases c : q < 8 + y
    · exact Or.inr (h6 q (by omega) c)
    · exact Or.inl (h7 q (by omega) hq)
  · refine Or.inr ?_
    by_cases a0 : q = 0
    · exact Or.inl a0
    by_cases a8 : q = 8
    · exact Or.inr (Or.inl a8)
    refine Or.inr (Or.inr ?_)
    rw [hF q hq, show p + q - 1 = p + (q - 1) by omega, hF (q - 1) (by omega)]
    by_cases a : q < x
    · exact Or.inr (n32 _ (h4 _ (by omega)))
    by_cases b : q < 8
    · exact Or.inl (h5 q (by omega) b)
    by_cases c : q < 8 + y
    · exact Or.inr (n32 _ (h6 _ (by omega) (by omega)))
    · exact Or.inl (h7 q (by omega) hq)
theorem br_sh {us : List Nat} (h : brP us) : shX (brG us (fpt us) us.length) (fpt us) (us.length - (fpt us + 1)) := by
  obtain ⟨h1, h2, h3, h4, h5⟩ := h
  have hfl := fpt_le us
  refine ⟨h1, h2, by omega, fun q hq => ?_, fun q a b => ?_, fun q a b => ?_, fun q a b => ?_⟩
  · unfold brG
    rw [if_pos (by omega), if_pos (by omega)]
    exact h5 q (by omega) (by omega)
  · unfold brG
    rw [if_pos b, if_neg (by omega)]
  · unfold brG
    rw [if_neg (by omega), if_pos (by omega)]
    exact h5 _ (by omega) (by omega)
  · unfold brG
    rw [if_neg (by omega), if_neg (by omega)]
theorem cd_sh {st tl : List Nat} {k : Nat} (hs : ∀ u ∈ st, sgP u) (ht : ∀ u ∈ tl, sgP u) (htl : tl.length ≤ 3) : shX (cdN st tl k) (ctN st.length k + dg k + 1) tl.length := by
  have hd := dg_le k
  have hc : ctN st.length k + dg k ≤ 7 := by unfold ctN; omega
  have hcs : ctN st.length k ≤ st.length := by unfold ctN; omega
  have gm : ∀ (l : List Nat) (i x : Nat), (∀ u ∈ l, sgP u) → i < l.length → sgP (l.getD i x) := fun l i x w hi => by
    rw [List.getD_eq_getElem?_getD, List.getElem?_eq_getElem hi]
    exact w _ (List.getElem_mem hi)
  refine ⟨by omega, by omega, htl, fun q hq => ?_, fun q a b => ?_, fun q a b => ?_, fun q a b => ?_⟩
  · unfold cdN cdP
    by_cases c : ctN st.length k < q ∧ q ≤ ctN st.length k + dg k
    · rw [if_pos c]
      unfold sgP
      omega
    · rw [if_neg c]
      unfold bsN
      by_cases e : q < ctN st.length k
      · rw [if_pos e]
        exact gm st q 0 hs (by omega)
      · rw [if_neg e, if_pos (by omega)]
        unfold sgP
        omega
  · unfold cdN cdP bsN
    rw [if_neg (by omega), if_neg (by omega), if_neg (by omega), if_pos (by omega)]
  · unfold cdN cdP bsN
    rw [if_neg (by omega), if_neg (by omega), if_neg (by omega), if_neg (by omega)]
    exact gm tl (q - 8) 32 ht (by omega)
  · unfold cdN cdP bsN
    rw [if_neg (by omega), if_neg (by omega), if_neg (by omega), if_neg (by omega), List.getD_eq_getElem?_getD, List.getElem?_eq_none (by omega)]
    rfl
