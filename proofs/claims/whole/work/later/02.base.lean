theorem goodIn_sub {big ws : List Cond} (hm : ∀ w ∈ ws, w ∈ big) (h : ws.all goodWord = true) : GoodIn big ws := fun w hw => ⟨hm w hw, good_of_word (List.all_eq_true.mp h w hw)⟩
theorem in_of {x : Int32} {n : Nat} (h0 : ¬ x < 0) (h1 : ¬ nI n ≤ x) (hn : n < 2 ^ 31) : vp_in x n := by
  obtain ⟨j, hj, rfl⟩ := nI_of h0
  refine vp_in_nI ?_ hn
  rcases Nat.lt_or_ge j n with q | q
  · exact q
  · exact absurd (nI_le q hj) h1
theorem in_k {x : Int32} {n k : Nat} (h0 : ¬ x < 0) (h1 : x ≤ nI n - nI k) (hk : k ≤ n) (hn : n < 2 ^ 31) : ∃ j : Nat, x = nI j ∧ j + k ≤ n := by
  obtain ⟨j, hj, rfl⟩ := nI_of h0
  rw [pk_sub hk] at h1
  have := (nI_leI hj (by omega)).mp h1
  exact ⟨j, rfl, by omega⟩
theorem in_k0 {x : Int32} {n k : Nat} (h0 : ¬ x < 0) (h1 : x ≤ nI n - nI k) (hk : k ≤ n) (hk0 : 0 < k) (hn : n < 2 ^ 31) : vp_in x n := by
  obtain ⟨j, rfl, hj⟩ := in_k h0 h1 hk hn
  exact vp_in_nI (by omega) hn
theorem in_kj {x : Int32} {n k i : Nat} (h0 : ¬ x < 0) (h1 : x ≤ nI n - nI k) (hk : k ≤ n) (hi : i < k) (hn : n < 2 ^ 31) : vp_in (x + nI i) n := by
  obtain ⟨j, rfl, hj⟩ := in_k h0 h1 hk hn
  rw [nI_add]
  exact vp_in_nI (by omega) hn
theorem le_of_nlt {a b : Int32} (h : ¬ a < b) : b ≤ a := Int32.not_lt.mp h
