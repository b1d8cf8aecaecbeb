/-! Entries put in another order. -/
theorem pE_ne {N t t' x y : Nat} {D : Nat → Int32} (h : hdOk N D) (hN : N ≤ 1024) (hx : x < hk N D + 2) (hy0 : y < hk N D + 2) (ht : t < hy D) (ht' : t' < hy D) (hne : x ≠ y) : pE (hv D) (hz D) t x + 4 ≤ pE (hv D) (hz D) t' y ∨ pE (hv D) (hz D) t' y + 4 ≤ pE (hv D) (hz D) t x := by
  obtain ⟨hC, v1, v2, hY, z1, z2, a1, a2, a3, k1, k2, r1, r2, k3, k4, k5⟩ := hd_facts h hN
  have p0 : ∀ y, pE (hv D) (hz D) 0 y = 512 * hv D + 4 * y := fun y => by unfold pE; omega
  have p1 : ∀ y, pE (hv D) (hz D) 1 y = 512 * hv D + 512 * hz D + 4 * y := fun y => by unfold pE; omega
  rcases (show t = 0 ∨ t = 1 by omega) with rfl | rfl <;> rcases (show t' = 0 ∨ t' = 1 by omega) with rfl | rfl
  · rw [p0, p0]; omega
  · rw [p0, p1]; omega
  · rw [p0, p1]; omega
  · rw [p1, p1]; omega
theorem pE_01 {N x : Nat} {D : Nat → Int32} (h : hdOk N D) (hN : N ≤ 1024) (hx : x < hk N D + 2) : pE (hv D) (hz D) 0 x + 4 ≤ pE (hv D) (hz D) 1 x := by
  obtain ⟨hC, v1, v2, hY, z1, z2, -⟩ := hd_facts h hN
  unfold pE
  omega
theorem lk_in {N t x v q : Nat} {D X : Nat → Int32} (h : hdOk N D) (hN : N ≤ 1024) (hx : x < hk N D + 2) (ht : t < hy D) (h1 : pE (hv D) (hz D) t x ≤ q) (h2 : q < pE (hv D) (hz D) t x + 4) : o1 (lk D X x v) q = ev (o4 X (pE (hv D) (hz D) t x)) v / 256 ^ (q - pE (hv D) (hz D) t x) % 256 := by
  have hY := (hd_facts h hN).2.2.2.1
  have h01 := pE_01 h hN hx
  unfold lk
  rcases hY with e | e
  · rw [e] at ht ⊢
    obtain rfl : t = 0 := by omega
    rw [sE, sE, st_o1, if_pos ⟨h1, h2⟩]
  · rw [e] at ht ⊢
    rcases (show t = 0 ∨ t = 1 by omega) with rfl | rfl
    · rw [sE, sE, sE, st_out (by omega), st_o1, if_pos ⟨h1, h2⟩]
    · rw [sE, sE, sE, st_o1, if_pos ⟨h1, h2⟩, st_o4o (by omega)]
theorem lk_same {x v q : Nat} {D X : Nat → Int32} (hq : ∀ t, t < hy D → q < pE (hv D) (hz D) t x ∨ pE (hv D) (hz D) t x + 4 ≤ q) : o1 (lk D X x v) q = o1 X q := by
  unfold lk
  exact sE_out _ hq
theorem o4_eq {X Y : Nat → Int32} {p : Nat} (h : ∀ k, k < 4 → o1 X (p + k) = o1 Y (p + k)) : o4 X p = o4 Y p := by
  have b0 := h 0 (by decide)
  have b1 := h 1 (by decide)
  have b2 := h 2 (by decide)
  have b3 := h 3 (by decide)
  rw [Nat.add_zero] at b0
  unfold o4 o2
  rw [b0, b1, b2, show p + 2 + 1 = p + 3 from rfl, b3]
theorem lk_comm {N a b u v : Nat} {D X : Nat → Int32} (h : hdOk N D) (hN : N ≤ 1024) (ha0 : a < hk N D + 2) (hb0 : b < hk N D + 2) (hne : a ≠ b) (q : Nat) : o1 (lk D (lk D X a u) b v) q = o1 (lk D (lk D X b v) a u) q := by
  by_cases wa : ∃ t, t < hy D ∧ pE (hv D) (hz D) t a ≤ q ∧ q < pE (hv D) (hz D) t a + 4
  · obtain ⟨t, t1, t2, t3⟩ := wa
    rw [lk_same (fun t' g => by have := pE_ne h hN ha0 hb0 t1 g hne; omega), lk_in h hN ha0 t1 t2 t3, lk_in h hN ha0 t1 t2 t3]
    have : o4 (lk D X b v) (pE (hv D) (hz D) t a) = o4 X (pE (hv D) (hz D) t a) := o4_eq fun k hk0 => lk_same fun t' g => by have := pE_ne h hN ha0 hb0 t1 g hne; omega
    rw [this]
  have sa : ∀ t, t < hy D → q < pE (hv D) (hz D) t a ∨ pE (hv D) (hz D) t a + 4 ≤ q := fun t g => Classical.byContradiction fun y => wa ⟨t, g, by omega, by omega⟩
  rw [lk_same (x := a) sa]
  by_cases wb' : ∃ t, t < hy D ∧ pE (hv D) (hz D) t b ≤ q ∧ q < pE (hv D) (hz D) t b + 4
  · obtain ⟨t, t1, t2, t3⟩ := wb'
    rw [lk_in h hN hb0 t1 t2 t3, lk_in h hN hb0 t1 t2 t3]
    have : o4 (lk D X a u) (pE (hv D) (hz D) t b) = o4 X (pE (hv D) (hz D) t b) := o4_eq fun k hk0 => lk_same fun t' g => by have := pE_ne h hN hb0 ha0 t1 g (Ne.symm hne); omega
    rw [this]
  have sb : ∀ t, t < hy D → q < pE (hv D) (hz D) t b ∨ pE (hv D) (hz D) t b + 4 ≤ q := fun t g => Classical.byContradiction fun y => wb' ⟨t, g, by omega, by omega⟩
  rw [lk_same (x := b) sb, lk_same (x := b) sb, lk_same (x := a) sa]
/-- one that is put first may be put last -/
theorem lks_last {N a u : Nat} {D : Nat → Int32} (h : hdOk N D) (hN : N ≤ 1024) (ha0 : a < hk N D + 2) : ∀ (l : List (Nat × Nat)) (X : Nat → Int32), lsOk N D l → (∀ b ∈ l, b.1 ≠ a) → ∀ q, o1 (lks D (lk D X a u) l) q = o1 (lks D X (l ++ [(a, u)])) q := by
  intro l
  induction l with
  | nil => intro X _ _ q; rfl
  | cons b l ih =>
    intro X hl hne q
    have hb := (hl b List.mem_cons_self).1
    have hl' : lsOk N D l := fun c hc0 => hl c (List.mem_cons_of_mem _ hc0)
    have hc := fun q => lk_comm (u := u) (v := b.2) (X := X) h hN ha0 hb (Ne.symm (hne b List.mem_cons_self)) q
    rw [List.cons_append, lks, lks, ← ih (lk D X b.1 b.2) hl' (fun c hc0 => hne c (List.mem_cons_of_mem _ hc0)) q]
    exact lks_ag h hN l _ _ hl' (fun q' _ _ => hc q') q (hc q)
