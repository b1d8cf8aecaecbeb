/-! make: the changed disk, by place. -/
theorem grN_p {D : Nat → Int32} {p p' : Nat} : ∀ (xs ch : List Nat) (X : Nat → Int32), 1 ≤ ch.length → grN D p xs X ch = grN D p' xs X ch := by
  intro xs
  induction xs with
  | nil => intro ch X _; rfl
  | cons x xs ih =>
    intro ch X h
    have e : gr D X p ch x = gr D X p' ch x := by unfold gr; rw [if_neg (by omega), if_neg (by omega)]
    rw [grN, grN, ih (ch ++ [x]) _ (by rw [List.length_append]; omega), e]
def mkX (D : Nat → Int32) (dr o : Nat) (X : Nat → Int32) : Nat → Int32 := if dr = 0 then X else zr (lk D X o 268435455) (plC D o) (512 * hc D)
def mkY (dr o : Nat) : List (Nat × Nat) := if dr = 0 then [] else [(o, 268435455)]
def mkO (dr o : Nat) : List Nat := if dr = 0 then [] else [o]
theorem mkO_mem {dr o y : Nat} (h : y ∈ mkO dr o) : dr ≠ 0 ∧ y = o := by
  unfold mkO at h
  by_cases g : dr = 0
  · rw [if_pos g] at h; cases h
  · rw [if_neg g] at h; exact ⟨g, List.mem_singleton.mp h⟩
theorem mkO_in {dr o : Nat} (h : dr ≠ 0) : o ∈ mkO dr o := by
  unfold mkO
  rw [if_neg h]
  exact List.mem_singleton.mpr rfl
theorem mkY_mem {dr o : Nat} {a : Nat × Nat} (h : a ∈ mkY dr o) : dr ≠ 0 ∧ a = (o, 268435455) := by
  unfold mkY at h
  by_cases g : dr = 0
  · rw [if_pos g] at h; cases h
  · rw [if_neg g] at h; exact ⟨g, List.mem_singleton.mp h⟩
theorem mk_X1 {N dr o q : Nat} {D X : Nat → Int32} {ch xs : List Nat} (h : hdOk N D) (hN : N ≤ 1024) (hod : dr ≠ 0 → isCl N D o) (hxs : ∀ y ∈ xs, isCl N D y) (hcl : ∀ y ∈ ch, isCl N D y) (hc1 : 1 ≤ ch.length) (hq : q < 512 * hv D ∨ 512 * ha D ≤ q) : (¬ inC D (xs ++ mkO dr o) q → o1 (grN D (512 * ha D) xs (mkX D dr o X) ch) q = o1 X q) ∧ (inC D (xs ++ mkO dr o) q → o1 (grN D (512 * ha D) xs (mkX D dr o X) ch) q = 0) := by
  rw [grN_p (p' := q) xs ch _ hc1]
  obtain ⟨g1, g2⟩ := grN_o1 (p := q) h hN xs ch (mkX D dr o X) hxs hcl q hq (by omega)
  have hx : o1 (mkX D dr o X) q = if dr ≠ 0 ∧ plC D o ≤ q ∧ q < plC D o + 512 * hc D then 0 else o1 X q := by
    unfold mkX
    by_cases g : dr = 0
    · rw [if_pos g, if_neg (fun y => y.1 g)]
    · rw [if_neg g, zr_o1, lk_out h hN (by have := (hod g).2; omega) hq]
      by_cases w : plC D o ≤ q ∧ q < plC D o + 512 * hc D
      · rw [if_pos w, if_pos ⟨g, w⟩]
      · rw [if_neg w, if_neg (fun y => w y.2)]
  refine ⟨fun w => ?_, fun w => ?_⟩
  · rw [g1 (fun ⟨y, y1, y2⟩ => w ⟨y, List.mem_append_left _ y1, y2⟩), hx, if_neg (fun y => w ⟨o, List.mem_append_right _ (mkO_in y.1), y.2⟩)]
  · obtain ⟨y, y1, y2⟩ := w
    rcases List.mem_append.mp y1 with e | e
    · exact g2 (Or.inl ⟨y, e, y2⟩)
    · obtain ⟨e1, e2⟩ := mkO_mem e
      rw [e2] at y2
      exact g2 (Or.inr (by rw [hx, if_pos ⟨e1, y2⟩]))
theorem mk_tab {N dr o : Nat} {D X Y : Nat → Int32} {ch xs : List Nat} (h : hdOk N D) (hN : N ≤ 1024) (hod : dr ≠ 0 → isCl N D o) (hxs : ∀ y ∈ xs, isCl N D y) (hcl : ∀ y ∈ ch, isCl N D y) (ht : ∀ q, 512 * hv D ≤ q → q < 512 * ha D → o1 X q = o1 Y q) : (∀ q, 512 * hv D ≤ q → q < 512 * ha D → o1 (mkX D dr o X) q = o1 (lks D Y (mkY dr o)) q) ∧ (∀ q, 512 * hv D ≤ q → q < 512 * ha D → o1 (grN D (512 * ha D) xs (mkX D dr o X) ch) q = o1 (lks D Y (mkY dr o ++ grLs xs ch)) q) := by
  have a : ∀ q, 512 * hv D ≤ q → q < 512 * ha D → o1 (mkX D dr o X) q = o1 (lks D Y (mkY dr o)) q := fun q q1 q2 => by
    unfold mkX mkY
    by_cases g : dr = 0
    · rw [if_pos g, if_pos g]; exact ht q q1 q2
    · rw [if_neg g, if_neg g, zr_o1, if_neg (by unfold plC; omega)]
      exact lk_ag h hN (by have := (hod g).2; omega) ht q (ht q q1 q2)
  refine ⟨a, fun q q1 q2 => ?_⟩
  rw [lks_app]
  exact grN_tab h hN (Nat.le_refl _) xs ch _ _ hxs hcl a q q1 q2
theorem mk_agr {N dr o q : Nat} {D E : Nat → Int32} {ch xs : List Nat} (h : hdOk N D) (hN : N ≤ 1024) (hod : dr ≠ 0 → isCl N D o) (hxs : ∀ y ∈ xs, isCl N D y) (hcl : ∀ y ∈ ch, isCl N D y) (ht : ∀ q, 512 * hv D ≤ q → q < 512 * ha D → o1 E q = o1 D q) (hq : o1 E q = o1 D q ∨ inC D (xs ++ mkO dr o) q) : o1 (grN D (512 * ha D) xs (mkX D dr o E) ch) q = o1 (grN D (512 * ha D) xs (mkX D dr o D) ch) q := by
  have a : ∀ q, (o1 E q = o1 D q ∨ inC D (mkO dr o) q) → o1 (mkX D dr o E) q = o1 (mkX D dr o D) q := fun q hq => by
    unfold mkX
    by_cases g : dr = 0
    · rw [if_pos g, if_pos g]
      exact hq.resolve_right (fun ⟨y, y1, _⟩ => (mkO_mem y1).1 g)
    · rw [if_neg g, if_neg g, zr_o1, zr_o1]
      by_cases w : plC D o ≤ q ∧ q < plC D o + 512 * hc D
      · rw [if_pos w, if_pos w]
      · rw [if_neg w, if_neg w]
        refine lk_ag h hN (by have := (hod g).2; omega) ht q (hq.resolve_right (fun ⟨y, y1, y2⟩ => w ?_))
        rw [(mkO_mem y1).2] at y2
        exact y2
  refine grN_ag h hN xs ch _ _ hxs hcl (fun q q1 q2 => a q (Or.inl (ht q q1 q2))) q ?_
  rcases hq with w | ⟨y, y1, y2⟩
  · exact Or.inl (a q (Or.inl w))
  · rcases List.mem_append.mp y1 with e | e
    · exact Or.inr ⟨y, e, y2⟩
    · exact Or.inl (a q (Or.inr ⟨y, e, y2⟩))
