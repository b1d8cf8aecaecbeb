/-! make: HERE's chain after it was made longer. -/
theorem grLs_links : ∀ (xs ch : List Nat) (e : Nat → Nat), (ch ++ xs).Nodup → 1 ≤ ch.length → (∀ q, q + 1 < ch.length → e (ch.getD q 0) = ch.getD (q + 1) 0) → (268435448 ≤ e (ch.getD (ch.length - 1) 0)) → (∀ q, q + 1 < (ch ++ xs).length → lkV (grLs xs ch) ((ch ++ xs).getD q 0) (e ((ch ++ xs).getD q 0)) = (ch ++ xs).getD (q + 1) 0) ∧ 268435448 ≤ lkV (grLs xs ch) ((ch ++ xs).getD ((ch ++ xs).length - 1) 0) (e ((ch ++ xs).getD ((ch ++ xs).length - 1) 0)) := by
  intro xs
  induction xs with
  | nil =>
    intro ch e hn h1 hl he
    rw [List.append_nil]
    exact ⟨hl, he⟩
  | cons x xs ih =>
    intro ch e hn h1 hl he
    rw [app_snoc ch x xs] at hn ⊢
    have hlen : (ch ++ [x]).length = ch.length + 1 := List.length_append
    have hn1 : (ch ++ [x]).Nodup := (List.nodup_append.mp hn).1
    have gl : ∀ q, q < ch.length → (ch ++ [x]).getD q 0 = ch.getD q 0 := fun q hq => app_l hq
    have gx : (ch ++ [x]).getD ch.length 0 = x := app_e
    have inj := fun i j hi hj w => nodup_inj hn1 (i := i) (j := j) hi hj w
    have hlast : ch.getD (ch.length - 1) 0 ≠ x := fun w => by
      have := inj (ch.length - 1) ch.length (by omega) (by omega) (by rw [gl _ (by omega), gx]; exact w)
      omega
    have ev1 : ∀ y w, lkV (grL ch x) y w = if y = ch.getD (ch.length - 1) 0 then x else if y = x then 268435455 else w := fun y w => by
      unfold grL
      rw [if_neg (by omega)]
      rfl
    obtain ⟨a1, a2⟩ := ih (ch ++ [x]) (fun y => lkV (grL ch x) y (e y)) hn (by omega) (fun q hq => by
      show lkV (grL ch x) ((ch ++ [x]).getD q 0) (e ((ch ++ [x]).getD q 0)) = _
      rw [ev1]
      by_cases c : q + 1 = ch.length
      · rw [gl q (by omega), show q = ch.length - 1 by omega, if_pos rfl, show ch.length - 1 + 1 = ch.length by omega, gx]
      · rw [if_neg (fun w => ?_), if_neg (fun w => ?_), gl q (by omega), gl (q + 1) (by omega)]
        · exact hl q (by omega)
        · have := inj q ch.length (by omega) (by omega) (by rw [gx]; exact w)
          omega
        · have := inj q (ch.length - 1) (by omega) (by omega) (by rw [gl (ch.length - 1) (by omega)]; exact w)
          omega) (by
      show 268435448 ≤ lkV (grL ch x) ((ch ++ [x]).getD ((ch ++ [x]).length - 1) 0) _
      rw [hlen, Nat.add_sub_cancel, gx, ev1, if_neg (fun w => hlast w.symm), if_pos rfl]
      decide)
    have step : ∀ y, lkV (grLs (x :: xs) ch) y (e y) = lkV (grLs xs (ch ++ [x])) y (lkV (grL ch x) y (e y)) := fun y => by
      rw [grLs, lkV_app (w := 0)]
    refine ⟨fun q hq => ?_, ?_⟩
    · rw [step]; exact a1 q hq
    · rw [step]; exact a2
