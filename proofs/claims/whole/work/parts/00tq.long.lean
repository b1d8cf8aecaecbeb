/-! make: HERE's chain is found again. -/
theorem lnk_links {N : Nat} {D : Nat → Int32} : ∀ (ch : List Nat) (x : Nat), lnk N D x ch → (∀ q, q + 1 < ch.length → ent D (ch.getD q 0) = ch.getD (q + 1) 0) ∧ (1 ≤ ch.length → ch.getD 0 0 = x ∧ (ent D (ch.getD (ch.length - 1) 0) = 0 ∨ 268435448 ≤ ent D (ch.getD (ch.length - 1) 0))) := by
  intro ch
  induction ch with
  | nil => intro x _; exact ⟨fun q h => absurd h (Nat.not_lt_zero _), fun h => absurd h (by decide)⟩
  | cons y l ih =>
    intro x h
    obtain ⟨h1, h2, h3⟩ := h
    obtain ⟨i1, i2⟩ := ih _ h3
    cases l with
    | nil =>
      refine ⟨fun q hq => absurd hq (by show ¬ q + 1 < 1; omega), fun _ => ⟨h1.symm, ?_⟩⟩
      exact h3
    | cons w l =>
      obtain ⟨j1, j2⟩ := i2 (by rw [List.length_cons]; omega)
      refine ⟨fun q hq => ?_, fun _ => ⟨h1.symm, ?_⟩⟩
      · cases q with
        | zero => exact j1.symm
        | succ q => exact i1 q (by rw [List.length_cons] at hq; omega)
      · exact j2
theorem here_long {N x : Nat} {D D' : Nat → Int32} {tk ch xs : List Nat} {l0 : List (Nat × Nat)} (hlt : ∀ y, isCl N D y → y < 268435448) (hkk : hk N D' = hk N D) (hfo : fo N D x tk = some ch) (hnd : (ch ++ xs).Nodup) (hcl : ∀ y ∈ ch ++ xs, isCl N D y) (hxt : ∀ y ∈ xs, y ∉ tk) (hfl : (ch ++ xs).length ≤ N / 2 + 2) (hl0 : ∀ a ∈ l0, a.1 ∉ ch) (hent : ∀ y ∈ ch ++ xs, ent D' y = lkV (grLs xs ch) y (lkV l0 y (ent D y))) : fo N D' x tk = some (ch ++ xs) := by
  have hlk := fol_lnk _ _ _ _ hfo
  have hsp := fol_spec _ _ _ _ hfo
  have hnt := fol_nt _ _ _ _ hfo
  obtain ⟨k1, k2⟩ := lnk_links ch x hlk
  obtain ⟨k3, k4⟩ := k2 hsp.2.1
  have hg : ∀ q, q < ch.length → ch.getD q 0 ∈ ch := fun q hq => by
    rw [List.getD_eq_getElem?_getD, List.getElem?_eq_getElem hq]
    exact List.getElem_mem hq
  have hid : ∀ y ∈ ch, lkV l0 y (ent D y) = ent D y := fun y hy => by
    rcases lkV_orA l0 (ent D y) (y := y) with w | ⟨a, a1, a2, -⟩
    · exact w
    · exact absurd (by rw [a2]; exact hy) (hl0 a a1)
  have hlast : 268435448 ≤ ent D (ch.getD (ch.length - 1) 0) := k4.resolve_left (hnt _ (hg _ (by have := hsp.2.1; omega))).2
  obtain ⟨g1, g2⟩ := grLs_links xs ch (fun y => lkV l0 y (ent D y)) hnd hsp.2.1 (fun q hq => by
    show lkV l0 (ch.getD q 0) (ent D (ch.getD q 0)) = _
    rw [hid _ (hg q (by omega))]
    exact k1 q hq) (by
    show _ ≤ lkV l0 (ch.getD (ch.length - 1) 0) (ent D (ch.getD (ch.length - 1) 0))
    rw [hid _ (hg _ (by have := hsp.2.1; omega))]
    exact hlast)
  have hlen : (ch ++ xs).length = ch.length + xs.length := List.length_append
  have hga : ∀ q, q < (ch ++ xs).length → (ch ++ xs).getD q 0 ∈ ch ++ xs := fun q hq => by
    rw [List.getD_eq_getElem?_getD, List.getElem?_eq_getElem hq]
    exact List.getElem_mem hq
  have hi : ∀ y, isCl N D' y ↔ isCl N D y := fun y => by unfold isCl; rw [hkk]
  have h1 := hsp.2.1
  refine fol_of (fun y w => hlt y ((hi y).mp w)) (ch ++ xs) _ x tk (by rw [app_l (by omega)]; exact k3) (by omega) hnd hfl (fun y w => ⟨(hi y).mpr (hcl y w), ?_⟩) (fun q hq => ?_) ?_
  · rcases List.mem_append.mp w with u | u
    · exact (hnt y u).1
    · exact hxt y u
  · rw [hent _ (hga q (by omega))]
    exact g1 q hq
  · rw [hent _ (hga _ (by omega))]
    exact g2
