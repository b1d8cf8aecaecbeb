/-! make: a plain name is shown as it was given. -/
theorem br_sv {F : Nat → Int32} {p : Nat} {us : List Nat} (h : brP us) (hu : ∀ u ∈ us, u < 65536) (hF : ∀ q, q < 11 → o1 F (p + q) = brG us (fpt us) us.length q) : svO F p 11 = us := by
  obtain ⟨h1, h2, h3, h4, h5, h6, h7⟩ := br_sh h
  obtain ⟨b1, b2, b3, b4, b5⟩ := h
  have hfl := fpt_le us
  have n32 : ∀ q, sgP q → ¬ q = 32 := fun q w e => sg32 (by rw [← e]; exact w)
  have lo : ∀ i, i ≤ 8 → svO F p i = us.take (min i (fpt us)) := by
    intro i
    induction i with
    | zero => intro _; rw [Nat.zero_min]; rfl
    | succ i ih =>
      intro hi
      rw [svO, ih (by omega), svA_n (by omega), List.append_nil]
      by_cases c : i < fpt us
      · have e : o1 F (p + i) = us.getD i 0 := by
          rw [hF i (by omega)]
          unfold brG
          rw [if_pos (by omega), if_pos (by omega)]
        rw [svB_y (by rw [e]; exact n32 _ (b5 i (by omega) (by omega))), e, show min i (fpt us) = i by omega, show min (i + 1) (fpt us) = i + 1 by omega, take_getD (by omega)]
      · have e : o1 F (p + i) = 32 := by rw [hF i (by omega)]; exact h5 i (by omega) (by omega)
        rw [svB_n e, List.append_nil, show min (i + 1) (fpt us) = min i (fpt us) by omega]
  by_cases c : us.length ≤ fpt us
  · have hi : ∀ i, 8 ≤ i → i ≤ 11 → svO F p i = us := by
      intro i
      induction i with
      | zero => intro h; omega
      | succ i ih =>
        intro a b
        by_cases e8 : i + 1 = 8
        · rw [lo (i + 1) (by omega), show min (i + 1) (fpt us) = us.length by omega, List.take_length]
        · have e : o1 F (p + i) = 32 := by rw [hF i (by omega)]; exact h7 i (by omega) (by omega)
          have e88 : o1 F (p + 8) = 32 := by rw [hF 8 (by omega)]; exact h7 8 (by omega) (by omega)
          rw [svO, ih (by omega) (by omega), svA_n (fun w => w.2 e88), List.append_nil, svB_n e, List.append_nil]
    exact hi 11 (by omega) (by omega)
  · have h46 := fpt_at (us := us) (by omega)
    have up : ∀ i, 9 ≤ i → i ≤ 11 → svO F p i = us.take (fpt us + 1 + (i - 8)) := by
      intro i
      induction i with
      | zero => intro h; omega
      | succ i ih =>
        intro a b
        by_cases e9 : i + 1 = 9
        · obtain rfl : i = 8 := by omega
          have e : o1 F (p + 8) = us.getD (fpt us + 1) 0 := by
            rw [hF 8 (by omega)]
            unfold brG
            rw [if_neg (by omega), if_pos (by omega), Nat.sub_self, Nat.add_zero]
          have ne := n32 _ (b5 (fpt us + 1) (by omega) (by omega))
          rw [svO, lo 8 (by omega), svA_y ⟨rfl, by rw [e]; exact ne⟩, svB_y (by rw [e]; exact ne), e, show min 8 (fpt us) = fpt us by omega, ← h46, ← take_getD (show fpt us < us.length by omega), ← take_getD (by omega)]
        · rw [svO, ih (by omega) (by omega), svA_n (by omega), List.append_nil]
          by_cases d : fpt us + 1 + (i - 8) < us.length
          · have e : o1 F (p + i) = us.getD (fpt us + 1 + (i - 8)) 0 := by
              rw [hF i (by omega)]
              unfold brG
              rw [if_neg (by omega), if_pos d]
            rw [svB_y (by rw [e]; exact n32 _ (b5 _ d (by omega))), e, ← take_getD d, show fpt us + 1 + (i + 1 - 8) = fpt us + 1 + (i - 8) + 1 by omega]
          · have e : o1 F (p + i) = 32 := by
              rw [hF i (by omega)]
              unfold brG
              rw [if_neg (by omega), if_neg d]
            rw [svB_n e, List.append_nil, List.take_of_length_le (by omega), List.take_of_length_le (by omega)]
    rw [up 11 (by omega) (by omega), List.take_of_length_le (by omega)]
/-- no kid is alike: what the scan asks -/
theorem no_twin {D D' : Nat → Int32} {its : List It} {fk n pe j : Nat} {nm : Nat → Nat} {us : List Nat} (h1 : ¬ ∃ j, fk ≤ j ∧ j < fk + n ∧ alk (inm (itr its j)) us) (h2 : ¬ shT D its fk n nm) (hpe : ∀ q, q < 11 → o1 D' (pe + q) = nm q) (hj1 : fk ≤ j) (hj2 : j < fk + n) (hs : slq D' (isp (itr its j)) D (isp (itr its j))) : ¬ (alk us (inm (itr its j)) ∨ ssP D' pe (isp (itr its j))) := by
  rintro (w | w)
  · exact h1 ⟨j, hj1, hj2, Eq.symm w⟩
  · refine h2 ⟨j, hj1, hj2, fun q hq => ?_⟩
    have := w q hq
    rw [hpe q hq, hs q (by omega)] at this
    exact this.symm
