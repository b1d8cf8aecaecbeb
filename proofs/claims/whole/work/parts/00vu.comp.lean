/-! What the reference has laid when it has turned. -/
theorem kpS_bl {rm : List Nat} {Y : Nat → Nat → Int32} : ∀ w ∈ kpS rm Y, ∃ s, s < 3 ∧ w.1 / 2 = rm.getD s 0 := by
  intro w hw
  unfold kpS at hw
  simp only [List.mem_cons, List.not_mem_nil, or_false] at hw
  rcases hw with y | y | y | y | y | y <;> rw [y]
  · exact ⟨0, by omega, by show 2 * _ / 2 = _; omega⟩
  · exact ⟨0, by omega, by show (2 * _ + 1) / 2 = _; omega⟩
  · exact ⟨1, by omega, by show 2 * _ / 2 = _; omega⟩
  · exact ⟨1, by omega, by show (2 * _ + 1) / 2 = _; omega⟩
  · exact ⟨2, by omega, by show 2 * _ / 2 = _; omega⟩
  · exact ⟨2, by omega, by show (2 * _ + 1) / 2 = _; omega⟩
theorem rcD_sub {N : Nat} {D : Nat → Int32} {its : List It} {A H : Nat} {gl : Nat → Nat} : ∀ n, (rcD N D its A H gl n).Sublist (kLs N D its A H gl n) := by
  intro n
  induction n with
  | zero => exact List.Sublist.slnil
  | succ n ih =>
    rw [rcD, kLs]
    refine List.Sublist.append ih ?_
    unfold kLi
    by_cases g : isDr D its n
    · rw [cif_t g, cif_t g]; exact List.Sublist.refl _
    · rw [cif_f g]; exact List.nil_sublist _
theorem rcD_mem {N : Nat} {D : Nat → Int32} {its : List It} {A H : Nat} {gl : Nat → Nat} {b : Nat} : ∀ n, b ∈ rcD N D its A H gl n ↔ ∃ i, i < n ∧ isDr D its i ∧ b ∈ chL A H gl (chI N D its i) := by
  intro n
  induction n with
  | zero => exact ⟨fun h => (by cases h), fun ⟨i, h, _⟩ => by omega⟩
  | succ n ih =>
    rw [rcD, List.mem_append, ih]
    by_cases w : isDr D its n
    · rw [cif_t w]
      constructor
      · rintro (⟨i, i1, i2⟩ | h)
        · exact ⟨i, by omega, i2⟩
        · exact ⟨n, by omega, w, h⟩
      · rintro ⟨i, i1, i2, i3⟩
        by_cases e : i = n
        · rw [e] at i3; exact Or.inr i3
        · exact Or.inl ⟨i, by omega, i2, i3⟩
    · rw [cif_f w]
      constructor
      · rintro (⟨i, i1, i2⟩ | h)
        · exact ⟨i, by omega, i2⟩
        · cases h
      · rintro ⟨i, i1, i2, i3⟩
        refine Or.inl ⟨i, ?_, i2, i3⟩
        have : i ≠ n := fun e => by rw [e] at i2; exact w i2
        omega
abbrev lyA (N : Nat) (D : Nat → Int32) (fks : List Nat) (its : List It) (A H P g0 r : Nat) (gl : Nat → Nat) (rm : List Nat) (F : Nat → Int32) : Prop := agW F (kpS rm (sYs D)) ∧ (∀ q, 3072 ≤ q → q < 1024 * A → o1 F q = if 3584 ≤ q ∧ q < 4096 then o1 (mrkX P r) (q - 3584) else o1 D q) ∧ (∀ j, j < its.length → isDr D its j → cpd N D its A H gl F j) ∧ agW F (inW rm 3 (recL N D its A H gl rm) (indN (recL N D its A H gl rm).length)) ∧ (∀ j, j < its.length → isDr D its j → fdA N D fks its A H P r gl rm (3 + indN (rcB N D its A H)) F j) ∧ (∀ j, j < its.length → ¬ isDr D its j → flA N D fks its A H P r gl rm (3 + indN (rcB N D its A H)) F j) ∧ (∀ x, x < 128 → o1 F (inPos A P (8 * r) 11 + x) = o1 (iRc N D its A H gl rm 0 Zd) x) ∧ ∀ n, 1 ≤ n → n ≤ g0 * (8 * r) → n ≠ 11 → (∀ j, j < its.length → n ≠ nmr j) → ∀ x, x < 128 → o1 F (inPos A P (8 * r) n + x) = 0
/-- an item's writes, kept where its rooms and its inode are kept -/
theorem fd_keep {N : Nat} {D : Nat → Int32} {fks : List Nat} {its : List It} {A H P r : Nat} {gl : Nat → Nat} {rm : List Nat} {b0 : Nat} {F F' : Nat → Int32} {j : Nat} (hj : j < its.length) (g : isDr D its j) (h : fdA N D fks its A H P r gl rm b0 F j) (hk1 : ∀ s, b0 ≤ s → s < b0 + sumN (dBI fks D its) its.length → ∀ x, x < 1024 → o1 F' (1024 * rm.getD s 0 + x) = o1 F (1024 * rm.getD s 0 + x)) (hk2 : ∀ x, x < 128 → o1 F' (inPos A P (8 * r) (nmr j) + x) = o1 F (inPos A P (8 * r) (nmr j) + x)) : fdA N D fks its A H P r gl rm b0 F' j := by
  have hsm := sumN_mono (f := dBI fks D its) (a := j + 1) (its.length - (j + 1))
  rw [show j + 1 + (its.length - (j + 1)) = its.length by omega] at hsm
  have hs1 : sumN (dBI fks D its) (j + 1) = sumN (dBI fks D its) j + dBI fks D its j := rfl
  have hdi : dBI fks D its j = flB fks its j + indN (flB fks its j) := cif_t g
  have hbo : boN fks D its b0 j = b0 + sumN (dBI fks D its) j := cif_t g
  have hbb : bbN fks D its j = flB fks its j := cif_t g
  have hfi : fiN fks D its b0 j = b0 + sumN (dBI fks D its) j + flB fks its j := by unfold fiN; rw [hbo, hbb]
  have hol : (ownL N D fks its A H b0 gl rm j).length = flB fks its j := by unfold ownL; rw [cif_t g]; exact rmF_len _ _ _
  have roomk : ∀ s, b0 ≤ s → s < b0 + sumN (dBI fks D its) its.length → ∀ q, 1024 * rm.getD s 0 ≤ q → q < 1024 * rm.getD s 0 + 1024 → o1 F' q = o1 F q := fun s s1 s2 q q1 q2 => by
    have := hk1 s s1 s2 (q - 1024 * rm.getD s 0) (by omega)
    rw [show 1024 * rm.getD s 0 + (q - 1024 * rm.getD s 0) = q by omega] at this
    exact this
  obtain ⟨h1, h2, h3⟩ := h
  refine ⟨agW_keep h1 fun v vv x hx => ?_, agW_keep h2 fun v vv x hx => ?_, sl_keep h3 hk2⟩
  · rw [hbo] at vv
    have hpk0 : flB fks its j = (pkS (eSz fks its j) (0 + eNo fks its j)).1 := by rw [Nat.zero_add]; rfl
    obtain ⟨s, s1, s2, s3⟩ := dwG_bl (b0 := b0 + sumN (dBI fks D its) j) (eNo fks its j) 0 Zd 0 0 (b0 + sumN (dBI fks D its) j) rfl rfl v vv
    exact roomk s (by omega) (by omega) _ (by omega) (by omega)
  · rw [hol, hfi] at vv
    obtain ⟨s, s1, s2, s3⟩ := inW_bl v vv
    exact roomk s (by omega) (by omega) _ (by omega) (by omega)
theorem fl_keep {N : Nat} {D : Nat → Int32} {fks : List Nat} {its : List It} {A H P r : Nat} {gl : Nat → Nat} {rm : List Nat} {b0 : Nat} {F F' : Nat → Int32} {j : Nat} (hj : j < its.length) (g : ¬ isDr D its j) (hfb : fbN D its j ≤ (chI N D its j).length * H) (h : flA N D fks its A H P r gl rm b0 F j) (hk0 : ∀ b ∈ kLi N D its A H gl j, ∀ x, x < 1024 → o1 F' (1024 * b + x) = o1 F (1024 * b + x)) (hk1 : ∀ s, b0 + sumN (dBI fks D its) its.length ≤ s → s < b0 + sumN (dBI fks D its) its.length + sumN (fBI D its) its.length → ∀ x, x < 1024 → o1 F' (1024 * rm.getD s 0 + x) = o1 F (1024 * rm.getD s 0 + x)) (hk2 : ∀ x, x < 128 → o1 F' (inPos A P (8 * r) (nmr j) + x) = o1 F (inPos A P (8 * r) (nmr j) + x)) : flA N D fks its A H P r gl rm b0 F' j := by
  have hsm := sumN_mono (f := fBI D its) (a := j + 1) (its.length - (j + 1))
  rw [show j + 1 + (its.length - (j + 1)) = its.length by omega] at hsm
  have hs1 : sumN (fBI D its) (j + 1) = sumN (fBI D its) j + fBI D its j := rfl
  have hdi : fBI D its j = indN (fbN D its j) := cif_f g
  have hbo : boN fks D its b0 j = b0 + sumN (dBI fks D its) its.length + sumN (fBI D its) j := cif_f g
  have hbb : bbN fks D its j = 0 := cif_f g
  have hfi : fiN fks D its b0 j = b0 + sumN (dBI fks D its) its.length + sumN (fBI D its) j := by unfold fiN; rw [hbo, hbb]; rfl
  have hki : kLi N D its A H gl j = (chL A H gl (chI N D its j)).take (fbN D its j) := cif_f g
  have how : ownL N D fks its A H b0 gl rm j = (chL A H gl (chI N D its j)).take (fbN D its j) := cif_f g
  have hol : ((chL A H gl (chI N D its j)).take (fbN D its j)).length = fbN D its j := by rw [List.length_take, chL_len]; exact Nat.min_eq_left hfb
  have roomk : ∀ s, b0 + sumN (dBI fks D its) its.length ≤ s → s < b0 + sumN (dBI fks D its) its.length + sumN (fBI D its) its.length → ∀ q, 1024 * rm.getD s 0 ≤ q → q < 1024 * rm.getD s 0 + 1024 → o1 F' q = o1 F q := fun s s1 s2 q q1 q2 => by
    have := hk1 s s1 s2 (q - 1024 * rm.getD s 0) (by omega)
    rw [show 1024 * rm.getD s 0 + (q - 1024 * rm.getD s 0) = q by omega] at this
    exact this
  obtain ⟨h1, h2, h3⟩ := h
  refine ⟨fun s hs x hx => ?_, agW_keep h2 fun v vv x hx => ?_, sl_keep h3 hk2⟩
  · rw [hk0 _ (by rw [hki, how]; exact getD_mem (by omega)) x hx]
    exact h1 s hs x hx
  · rw [how, hol, hfi] at vv
    obtain ⟨s, s1, s2, s3⟩ := inW_bl v vv
    exact roomk s (by omega) (by omega) _ (by omega) (by omega)
