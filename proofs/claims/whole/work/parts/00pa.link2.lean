/-! The tables after entries are put. -/
theorem nocap_of {X : Nat → Int32} {p : Nat} (h : o4 X p % 2 ^ 28 ≤ 600 ∨ 268435448 ≤ o4 X p % 2 ^ 28) : ¬ cpP X p := by
  have a1 := o1_lt X p
  have a2 := o1_lt X (p + 1)
  have a3 := o1_lt X (p + 2)
  have a4 := o1_lt X (p + 3)
  have e4 : o4 X p = o1 X p + 256 * o1 X (p + 1) + 65536 * (o1 X (p + 2) + 256 * o1 X (p + 3)) := rfl
  have e2 : o2 X (p + 1) = o1 X (p + 1) + 256 * o1 X (p + 2) := rfl
  have key : (o1 X (p + 1) ≤ 2 ∧ o1 X (p + 2) = 0) ∨ (o1 X (p + 1) = 255 ∧ o1 X (p + 2) = 255) := by
    rw [e4] at h
    generalize o1 X p = a at *
    generalize o1 X (p + 1) = b at *
    generalize o1 X (p + 2) = c at *
    generalize o1 X (p + 3) = d at *
    clear e4 e2
    omega
  rintro (⟨-, w⟩ | ⟨-, -, w, -⟩)
  · unfold unP at w
    rw [e2] at w
    rcases key with ⟨k1, k2⟩ | ⟨k1, k2⟩
    · have := w.1
      omega
    · have := w.2.2.2.1
      omega
  · have w := (w.2 1 (by decide)).1
    generalize o1 X (p + 1) = b at *
    rcases w with w | w
    · omega
    · unfold sgP at w
      omega
def lk (D X : Nat → Int32) (x v : Nat) : Nat → Int32 := sE X (hv D) (hz D) x v (hy D)
theorem lk_hp {N t x : Nat} {D : Nat → Int32} (h : hdOk N D) (hN : N ≤ 1024) (hx : x < hk N D + 2) (ht : t < hy D) : 512 * hv D ≤ pE (hv D) (hz D) t x ∧ pE (hv D) (hz D) t x + 4 ≤ 512 * ha D := by
  obtain ⟨hC, v1, v2, hY, z1, z2, a1, a2, a3, k1, k2, r1, r2, k3, k4, k5⟩ := hd_facts h hN
  unfold pE
  rw [a1]
  rcases hY with e | e
  · rw [e] at ht ⊢
    obtain rfl : t = 0 := by omega
    omega
  · rw [e] at ht ⊢
    rcases Nat.lt_or_ge t 1 with w | w
    · obtain rfl : t = 0 := by omega
      omega
    · obtain rfl : t = 1 := by omega
      omega
theorem lk_out {N x v q : Nat} {D X : Nat → Int32} (h : hdOk N D) (hN : N ≤ 1024) (hx : x < hk N D + 2) (hq : q < 512 * hv D ∨ 512 * ha D ≤ q) : o1 (lk D X x v) q = o1 X q := by
  unfold lk
  refine sE_out _ fun t ht => ?_
  have := lk_hp h hN hx ht
  omega
theorem lk_e4 {N t x y v : Nat} {D X : Nat → Int32} (h : hdOk N D) (hN : N ≤ 1024) (hx : x < hk N D + 2) (hy0 : y < hk N D + 2) (hv0 : v < 2 ^ 28) (ht : t < hy D) : o4 (lk D X x v) (pE (hv D) (hz D) t y) % 2 ^ 28 = if y = x then v else o4 X (pE (hv D) (hz D) t y) % 2 ^ 28 := by
  obtain ⟨hC, v1, v2, hY, z1, z2, a1, a2, a3, k1, k2, r1, r2, k3, k4, k5⟩ := hd_facts h hN
  unfold lk
  have p0 : ∀ y, pE (hv D) (hz D) 0 y = 512 * hv D + 4 * y := fun y => by unfold pE; omega
  have p1 : ∀ y, pE (hv D) (hz D) 1 y = 512 * hv D + 512 * hz D + 4 * y := fun y => by unfold pE; omega
  have hw := fun X : Nat → Int32 => ev_lt (o4_lt X (pE (hv D) (hz D) 0 x)) hv0
  have hw1 := fun X : Nat → Int32 => ev_lt (o4_lt X (pE (hv D) (hz D) 1 x)) hv0
  rcases hY with e | e
  · rw [e] at ht ⊢
    obtain rfl : t = 0 := by omega
    rw [sE, sE]
    by_cases w : y = x
    · rw [if_pos w, w, st_o4 (hw X), ev_mod hv0]
    · rw [if_neg w, st_o4o (by rw [p0, p0]; omega)]
  · rw [e] at ht ⊢
    rw [sE, sE, sE]
    rcases Nat.lt_or_ge t 1 with u | u
    · obtain rfl : t = 0 := by omega
      rw [st_o4o (by rw [p0, p1]; omega)]
      by_cases w : y = x
      · rw [if_pos w, w, st_o4 (hw X), ev_mod hv0]
      · rw [if_neg w, st_o4o (by rw [p0, p0]; omega)]
    · obtain rfl : t = 1 := by omega
      by_cases w : y = x
      · rw [if_pos w, w, st_o4 (hw1 _), ev_mod hv0]
      · rw [if_neg w, st_o4o (by rw [p1, p1]; omega), st_o4o (by rw [p0, p1]; omega)]
theorem lk_ag {N x v : Nat} {D X Xe : Nat → Int32} (h : hdOk N D) (hN : N ≤ 1024) (hx : x < hk N D + 2) (hT : ∀ q, 512 * hv D ≤ q → q < 512 * ha D → o1 Xe q = o1 X q) : ∀ q, o1 Xe q = o1 X q → o1 (lk D Xe x v) q = o1 (lk D X x v) q := by
  unfold lk
  have key : ∀ n, n ≤ hy D → ∀ q, o1 Xe q = o1 X q → o1 (sE Xe (hv D) (hz D) x v n) q = o1 (sE X (hv D) (hz D) x v n) q := by
    intro n
    induction n with
    | zero => intro _ q hq; exact hq
    | succ n ih =>
      intro hn q hq
      have hp := lk_hp h hN hx (show n < hy D by omega)
      have hb : ∀ k, k < 4 → o1 (sE Xe (hv D) (hz D) x v n) (pE (hv D) (hz D) n x + k) = o1 (sE X (hv D) (hz D) x v n) (pE (hv D) (hz D) n x + k) := fun k hk0 => ih (by omega) _ (hT _ (by omega) (by omega))
      have e4 : o4 (sE Xe (hv D) (hz D) x v n) (pE (hv D) (hz D) n x) = o4 (sE X (hv D) (hz D) x v n) (pE (hv D) (hz D) n x) := by
        have b0 := hb 0 (by decide)
        have b1 := hb 1 (by decide)
        have b2 := hb 2 (by decide)
        have b3 := hb 3 (by decide)
        rw [Nat.add_zero] at b0
        unfold o4 o2
        rw [b0, b1, b2, show pE (hv D) (hz D) n x + 2 + 1 = pE (hv D) (hz D) n x + 3 from rfl, b3]
      rw [sE, sE, e4]
      exact st_ag (ih (by omega) q hq)
  exact key _ (Nat.le_refl _)
/-- many entries put, one after another -/
def lks (D : Nat → Int32) : (Nat → Int32) → List (Nat × Nat) → Nat → Int32
  | X, [] => X
  | X, a :: l => lks D (lk D X a.1 a.2) l
theorem lks_app (D : Nat → Int32) : ∀ (l m : List (Nat × Nat)) (X : Nat → Int32), lks D X (l ++ m) = lks D (lks D X l) m := by
  intro l
  induction l with
  | nil => intro m X; rfl
  | cons a l ih => intro m X; exact ih m _
abbrev lsOk (N : Nat) (D : Nat → Int32) (l : List (Nat × Nat)) : Prop := ∀ a ∈ l, a.1 < hk N D + 2 ∧ a.2 < 2 ^ 28
theorem lks_out {N q : Nat} {D : Nat → Int32} (h : hdOk N D) (hN : N ≤ 1024) (hq : q < 512 * hv D ∨ 512 * ha D ≤ q) : ∀ (l : List (Nat × Nat)) (X : Nat → Int32), lsOk N D l → o1 (lks D X l) q = o1 X q := by
  intro l
  induction l with
  | nil => intro X _; rfl
  | cons a l ih =>
    intro X hl
    rw [lks, ih _ (fun b hb => hl b (List.mem_cons_of_mem _ hb)), lk_out h hN (hl a List.mem_cons_self).1 hq]
theorem lks_ag {N : Nat} {D : Nat → Int32} (h : hdOk N D) (hN : N ≤ 1024) : ∀ (l : List (Nat × Nat)) (X Xe : Nat → Int32), lsOk N D l → (∀ q, 512 * hv D ≤ q → q < 512 * ha D → o1 Xe q = o1 X q) → ∀ q, o1 Xe q = o1 X q → o1 (lks D Xe l) q = o1 (lks D X l) q := by
  intro l
  induction l with
  | nil => intro X Xe _ _ q hq; exact hq
  | cons a l ih =>
    intro X Xe hl hT q hq
    have ha1 := (hl a List.mem_cons_self).1
    rw [lks, lks]
    exact ih _ _ (fun b hb => hl b (List.mem_cons_of_mem _ hb)) (fun q' g1 g2 => lk_ag h hN ha1 hT q' (hT q' g1 g2)) q (lk_ag h hN ha1 hT q hq)
/-- an entry after them: the last that was put there, or what it was -/
def lkV (l : List (Nat × Nat)) (y w : Nat) : Nat := match l with
  | [] => w
  | a :: l => lkV l y (if y = a.1 then a.2 else w)
theorem lks_e4 {N t y : Nat} {D : Nat → Int32} (h : hdOk N D) (hN : N ≤ 1024) (hy0 : y < hk N D + 2) (ht : t < hy D) : ∀ (l : List (Nat × Nat)) (X : Nat → Int32), lsOk N D l → o4 (lks D X l) (pE (hv D) (hz D) t y) % 2 ^ 28 = lkV l y (o4 X (pE (hv D) (hz D) t y) % 2 ^ 28) := by
  intro l
  induction l with
  | nil => intro X _; rfl
  | cons a l ih =>
    intro X hl
    have ha1 := hl a List.mem_cons_self
    rw [lks, ih _ (fun b hb => hl b (List.mem_cons_of_mem _ hb)), lk_e4 h hN ha1.1 hy0 ha1.2 ht]
    rfl
theorem lkV_no {y w : Nat} : ∀ (l : List (Nat × Nat)), (∀ a ∈ l, a.1 ≠ y) → lkV l y w = w := by
  intro l
  induction l with
  | nil => intro _; rfl
  | cons a l ih =>
    intro hl
    rw [lkV, if_neg (fun e => hl a List.mem_cons_self e.symm)]
    exact ih (fun b hb => hl b (List.mem_cons_of_mem _ hb))
theorem lkV_or {y : Nat} : ∀ (l : List (Nat × Nat)) (w : Nat), lkV l y w = w ∨ ∃ a ∈ l, a.1 = y ∧ lkV l y w = a.2 := by
  intro l
  induction l with
  | nil => intro w; exact Or.inl rfl
  | cons a l ih =>
    intro w
    rw [lkV]
    rcases ih (if y = a.1 then a.2 else w) with e | ⟨b, b1, b2, b3⟩
    · by_cases g : y = a.1
      · rw [if_pos g] at e ⊢
        exact Or.inr ⟨a, List.mem_cons_self, g.symm, e⟩
      · rw [if_neg g] at e ⊢
        exact Or.inl e
    · exact Or.inr ⟨b, List.mem_cons_of_mem _ b1, b2, b3⟩
