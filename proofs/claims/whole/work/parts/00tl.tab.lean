/-! make: the tables stay sound. -/
theorem lk_e4F {N t x y v : Nat} {D X : Nat → Int32} (h : hdOk N D) (hN : N ≤ 1024) (hx : x < hk N D + 2) (hy0 : y < hk N D + 2) (hv0 : v < 2 ^ 28) (ht : t < hy D) : o4 (lk D X x v) (pE (hv D) (hz D) t y) = if y = x then ev (o4 X (pE (hv D) (hz D) t x)) v else o4 X (pE (hv D) (hz D) t y) := by
  obtain ⟨hC, v1, v2, hY, z1, z2, a1, a2, a3, k1, k2, r1, r2, k3, k4, k5⟩ := hd_facts h hN
  unfold lk
  have p0 : ∀ y, pE (hv D) (hz D) 0 y = 512 * hv D + 4 * y := fun y => by unfold pE; omega
  have p1 : ∀ y, pE (hv D) (hz D) 1 y = 512 * hv D + 512 * hz D + 4 * y := fun y => by unfold pE; omega
  have hw := fun X : Nat → Int32 => ev_lt (o4_lt X (pE (hv D) (hz D) 0 x)) hv0
  have hw1 := fun X : Nat → Int32 => ev_lt (o4_lt X (pE (hv D) (hz D) 1 x)) hv0
  rcases hY with e | e
  · rw [e] at ht ⊢
    obtain rfl : t = 0 := by omega
    rw [sE, sE]
    by_cases w : y = x
    · rw [if_pos w, w, st_o4 (hw X)]
    · rw [if_neg w, st_o4o (by rw [p0, p0]; omega)]
  · rw [e] at ht ⊢
    rw [sE, sE, sE]
    rcases Nat.lt_or_ge t 1 with u | u
    · obtain rfl : t = 0 := by omega
      rw [st_o4o (by rw [p0, p1]; omega)]
      by_cases w : y = x
      · rw [if_pos w, w, st_o4 (hw X)]
      · rw [if_neg w, st_o4o (by rw [p0, p0]; omega)]
    · obtain rfl : t = 1 := by omega
      by_cases w : y = x
      · rw [if_pos w, w, st_o4 (hw1 _), st_o4o (by rw [p0, p1]; omega)]
      · rw [if_neg w, st_o4o (by rw [p1, p1]; omega), st_o4o (by rw [p0, p1]; omega)]
theorem lks_two {N : Nat} {D : Nat → Int32} (h : hdOk N D) (hN : N ≤ 1024) (h2 : hy D = 2) : ∀ (l : List (Nat × Nat)) (X : Nat → Int32), lsOk N D l → (∀ y, y < hk N D + 2 → o4 X (pE (hv D) (hz D) 0 y) = o4 X (pE (hv D) (hz D) 1 y)) → ∀ y, y < hk N D + 2 → o4 (lks D X l) (pE (hv D) (hz D) 0 y) = o4 (lks D X l) (pE (hv D) (hz D) 1 y) := by
  intro l
  induction l with
  | nil => intro X _ hX; exact hX
  | cons a l ih =>
    intro X hl hX
    obtain ⟨a1, a2⟩ := hl a List.mem_cons_self
    rw [lks]
    refine ih _ (fun b hb => hl b (List.mem_cons_of_mem _ hb)) fun y hy0 => ?_
    rw [lk_e4F h hN a1 hy0 a2 (by omega), lk_e4F h hN a1 hy0 a2 (by omega), hX _ a1, hX y hy0]
theorem lkV_orA {y : Nat} : ∀ (l : List (Nat × Nat)) (w : Nat), lkV l y w = w ∨ ∃ a ∈ l, a.1 = y ∧ lkV l y w = a.2 := by
  intro l
  induction l with
  | nil => intro w; exact Or.inl rfl
  | cons a l ih =>
    intro w
    rw [lkV]
    rcases ih (if y = a.1 then a.2 else w) with e | ⟨b, b1, b2, b3⟩
    · rw [e]
      by_cases c : y = a.1
      · rw [if_pos c]
        exact Or.inr ⟨a, List.mem_cons_self, c.symm, rfl⟩
      · rw [if_neg c]
        exact Or.inl rfl
    · exact Or.inr ⟨b, List.mem_cons_of_mem _ b1, b2, b3⟩
theorem tab_new {N : Nat} {D X : Nat → Int32} {l : List (Nat × Nat)} (h : hdOk N D) (hN : N ≤ 1024) (hT : tabOk N D) (hl : lsOk N D l) (hl2 : ∀ a ∈ l, 2 ≤ a.1 ∧ (a.2 = 0 ∨ isCl N D a.2 ∨ 268435448 ≤ a.2)) (h0 : ∀ q, q < 512 * hv D → o1 X q = o1 D q) (ht : ∀ q, 512 * hv D ≤ q → q < 512 * ha D → o1 X q = o1 (lks D D l) q) (hn : hv X = hv D ∧ hy X = hy D ∧ hz X = hz D ∧ hk N X = hk N D) : tabOk N X := by
  have hf := hd_facts h hN
  have hen : ∀ x, x < hk N D + 2 → ent X x = ent D x ∨ ∃ a ∈ l, a.1 = x ∧ ent X x = a.2 := fun x hx => by
    rw [ent_tab h hN hl h0 ht hx]
    exact lkV_orA l _
  intro x hx
  rw [hn.2.2.2] at hx
  obtain ⟨t1, t2, t3, t4⟩ := hT x hx
  refine ⟨fun e => ?_, fun e => ?_, fun e => ?_, fun e => ?_⟩
  · rcases hen x hx with w | ⟨a, a1, a2, -⟩
    · rw [w]; exact t1 e
    · have := (hl2 a a1).1; omega
  · rcases hen x hx with w | ⟨a, a1, a2, -⟩
    · rw [w]; exact t2 e
    · have := (hl2 a a1).1; omega
  · have hi : ∀ y, isCl N X y ↔ isCl N D y := fun y => by unfold isCl; rw [hn.2.2.2]
    rw [hi]
    rcases hen x hx with w | ⟨a, a1, a2, a3⟩
    · rw [w]; exact t3 e
    · rw [a3]; exact (hl2 a a1).2
  · rw [hn.2.1] at e
    have p0 : ∀ y, 512 * hv D + 4 * y = pE (hv D) (hz D) 0 y := fun y => by unfold pE; rw [Nat.zero_mul, Nat.add_zero]
    have p1 : ∀ y, 512 * (hv D + hz D) + 4 * y = pE (hv D) (hz D) 1 y := fun y => by unfold pE; rw [Nat.one_mul]
    have tr : ∀ t, t < 2 → o4 X (pE (hv D) (hz D) t x) = o4 (lks D D l) (pE (hv D) (hz D) t x) := fun t ht2 => by
      have hp := lk_hp h hN hx (show t < hy D by omega)
      have hb : ∀ k, k < 4 → o1 X (pE (hv D) (hz D) t x + k) = o1 (lks D D l) (pE (hv D) (hz D) t x + k) := fun k hk0 => ht _ (by omega) (by omega)
      have b0 := hb 0 (by decide)
      have b1 := hb 1 (by decide)
      have b2 := hb 2 (by decide)
      have b3 := hb 3 (by decide)
      rw [Nat.add_zero] at b0
      unfold o4 o2
      rw [b0, b1, b2, show pE (hv D) (hz D) t x + 2 + 1 = pE (hv D) (hz D) t x + 3 from rfl, b3]
    rw [hn.1, hn.2.2.1, p0, p1, tr 0 (by omega), tr 1 (by omega)]
    exact lks_two h hN e l D hl (fun y hy0 => by rw [← p0, ← p1]; exact (hT y hy0).2.2.2 e) x hx
