/-! make: what the changed disks hold, by place. -/
/-- what is known of the slots and of the clusters when an item is made -/
abbrev mkP (N : Nat) (D : Nat → Int32) (ch xs : List Nat) (dr o b W e L L' : Nat) : Prop := (hdOk N D ∧ 256 ≤ N ∧ N ≤ 1024) ∧ ((dr = 0 ∨ dr = 1) ∧ 1 ≤ ch.length ∧ (ch ++ xs).Nodup) ∧ ((∀ y ∈ ch, isCl N D y ∧ ent D y ≠ 0) ∧ (∀ y ∈ xs, isCl N D y ∧ ent D y = 0) ∧ (dr = 1 → isCl N D o ∧ ent D o = 0 ∧ o ∉ xs)) ∧ (L = ch.length * 16 * hc D ∧ L' = (ch ++ xs).length * 16 * hc D ∧ 1 ≤ W ∧ W ≤ 21 ∧ b + W ≤ L') ∧ (enE (fun s => o1 D (plS D ch s)) L e ∧ b ≤ e ∧ ∀ s, b ≤ s → s < b + W → s < e → o1 D (plS D ch s) = 229)
theorem mk_cl {N dr o b W e L L' : Nat} {D : Nat → Int32} {ch xs : List Nat} (h : mkP N D ch xs dr o b W e L L') : (∀ y ∈ ch, isCl N D y) ∧ (∀ y ∈ xs, isCl N D y) ∧ (∀ y ∈ ch ++ xs, isCl N D y) ∧ (dr ≠ 0 → isCl N D o ∧ ent D o = 0 ∧ o ∉ xs ∧ o ∉ ch ∧ o ∉ ch ++ xs) := by
  obtain ⟨-, ⟨p3, -, -⟩, ⟨p6, p7, p8⟩, -⟩ := h
  have a1 : ∀ y ∈ ch, isCl N D y := fun y hy0 => (p6 y hy0).1
  have a2 : ∀ y ∈ xs, isCl N D y := fun y hy0 => (p7 y hy0).1
  refine ⟨a1, a2, fun y hy0 => (List.mem_append.mp hy0).elim (a1 y) (a2 y), fun g => ?_⟩
  obtain ⟨o1, o2, o3⟩ := p8 (p3.resolve_left g)
  have o4 : o ∉ ch := fun w => (p6 o w).2 o2
  exact ⟨o1, o2, o3, o4, fun w => (List.mem_append.mp w).elim o4 o3⟩
/-- a slot of the (longer) chain -/
theorem mk_slot {N dr o b W e L L' s k : Nat} {D : Nat → Int32} {ch xs : List Nat} (h : mkP N D ch xs dr o b W e L L') (hs : s < L') (hk0 : k < 32) : (512 * ha D ≤ plS D (ch ++ xs) s + k ∧ plS D (ch ++ xs) s + k < 512 * N ∧ clOf D (plS D (ch ++ xs) s + k) ∈ ch ++ xs) ∧ (dr ≠ 0 → plS D (ch ++ xs) s + k < plC D o ∨ plC D o + 512 * hc D ≤ plS D (ch ++ xs) s + k) ∧ (s < L → ¬ inC D (xs ++ mkO dr o) (plS D (ch ++ xs) s + k)) ∧ (L ≤ s → inC D (xs ++ mkO dr o) (plS D (ch ++ xs) s + k)) := by
  obtain ⟨c1, c2, c3, c4⟩ := mk_cl h
  obtain ⟨⟨ho, hN1, hN⟩, ⟨hdr, hc1, hnd⟩, ⟨hcl, hxs, hod⟩, ⟨hL, hL', hW, hW2, hbW⟩, -⟩ := h
  have hC := (hd_facts ho hN).1
  rw [hL'] at hs
  obtain ⟨a1, a2, a3⟩ := plS_in (k := k) ho hN c3 hs hk0
  have far : ∀ x, 2 ≤ x → x ∉ ch ++ xs → plS D (ch ++ xs) s + k < plC D x ∨ plC D x + 512 * hc D ≤ plS D (ch ++ xs) s + k := fun x x1 x2 => Classical.byContradiction fun w => by
    have e := plC_cl (j := plS D (ch ++ xs) s + k - plC D x) hC x1 (by omega)
    rw [show plC D x + (plS D (ch ++ xs) s + k - plC D x) = plS D (ch ++ xs) s + k by omega] at e
    rw [e] at a3
    exact x2 a3
  refine ⟨⟨a1, a2, a3⟩, fun g => far o (c4 g).1.1 (c4 g).2.2.2.2, fun g => ?_, fun g => ?_⟩
  · rintro ⟨x, x1, x2, x3⟩
    rw [hL] at g
    have b3 := (plS_in (k := k) ho hN c1 g hk0).2.2
    rw [← plS_app (xs := xs) hC g] at b3
    rcases List.mem_append.mp x1 with w | w
    · have e := plC_cl (j := plS D (ch ++ xs) s + k - plC D x) hC (hxs x w).1.1 (by omega)
      rw [show plC D x + (plS D (ch ++ xs) s + k - plC D x) = plS D (ch ++ xs) s + k by omega] at e
      rw [e] at b3
      exact (hcl x b3).2 (hxs x w).2
    · obtain ⟨w1, w2⟩ := mkO_mem w
      rw [w2] at x2 x3
      rcases far o (c4 w1).1.1 (c4 w1).2.2.2.2 with y | y <;> omega
  · obtain ⟨e1, e2, -⟩ := plS_off (ch := ch ++ xs) (s := s) ho hN
    refine ⟨(ch ++ xs).getD (s / (16 * hc D)) 0, List.mem_append_left _ ?_, by rw [e1]; omega, by rw [e1]; omega⟩
    rw [hL] at g
    have hp : 0 < 16 * hc D := by omega
    have q1 : ch.length ≤ s / (16 * hc D) := (Nat.le_div_iff_mul_le hp).mpr (by rw [← Nat.mul_assoc]; exact g)
    have q2 : s / (16 * hc D) < (ch ++ xs).length := (Nat.div_lt_iff_lt_mul hp).mpr (by rw [← Nat.mul_assoc]; exact hs)
    rw [List.getD_eq_getElem?_getD, List.getElem?_append_right q1, ← List.getD_eq_getElem?_getD]
    rw [List.length_append] at q2
    exact getD_mem (by omega)
/-- two slots of the chain lie apart -/
theorem mk_apart {N dr o b W e L L' s t k : Nat} {D : Nat → Int32} {ch xs : List Nat} (h : mkP N D ch xs dr o b W e L L') (hs : s < L') (ht : t < L') (hst : s ≠ t) (hk0 : k < 32) : ¬ (plS D (ch ++ xs) t ≤ plS D (ch ++ xs) s + k ∧ plS D (ch ++ xs) s + k < plS D (ch ++ xs) t + 32) := by
  obtain ⟨c1, c2, c3, c4⟩ := mk_cl h
  obtain ⟨⟨ho, hN1, hN⟩, ⟨hdr, hc1, hnd⟩, -, ⟨hL, hL', hW, hW2, hbW⟩, -⟩ := h
  rw [hL'] at hs ht
  have a1 := (plS_lt ho hN c3 hs).2.1
  have a2 := (plS_lt ho hN c3 ht).2.1
  intro w
  exact hst (plS_inj ho hN c3 hnd hs ht (by omega))
/-- the end mark's slot is none of those that are laid -/
theorem mk_hem {N dr o b W e L L' : Nat} {D : Nat → Int32} {ch xs : List Nat} (h : mkP N D ch xs dr o b W e L L') : ∀ i, i < W → ¬ inS (fun i => plS D (ch ++ xs) (b + i)) i (plS D (ch ++ xs) (b + W)) := by
  intro i hi w
  have w1 : plS D (ch ++ xs) (b + i) ≤ plS D (ch ++ xs) (b + W) := w.1
  have w2 : plS D (ch ++ xs) (b + W) < plS D (ch ++ xs) (b + i) + 32 := w.2
  have hbW := h.2.2.2.1.2.2.2.2
  by_cases g : b + W < L'
  · exact mk_apart (k := 0) h g (show b + i < L' by omega) (by omega) (by decide) ⟨w1, w2⟩
  · obtain ⟨c1, c2, c3, c4⟩ := mk_cl h
    obtain ⟨⟨ho, hN1, hN⟩, ⟨hdr, hc1, hnd⟩, -, ⟨hL, hL', hW, hW2, -⟩, -⟩ := h
    have hC := (hd_facts ho hN).1
    obtain ⟨e1, e2, e3⟩ := plS_off (ch := ch ++ xs) (s := b + i) ho hN
    obtain ⟨f1, f2, f3⟩ := plS_off (ch := ch ++ xs) (s := b + W) ho hN
    have a1 := (plS_in (k := 0) ho hN c3 (show b + i < _ by rw [← hL']; omega) (by decide)).1
    have hq : b + W = (ch ++ xs).length * (16 * hc D) := by rw [← Nat.mul_assoc, ← hL']; omega
    have hm : (b + W) % (16 * hc D) = 0 := by rw [hq, Nat.mul_mod_left]
    rw [hm, Nat.mul_zero] at f3
    have hm2 : (b + i) % (16 * hc D) = 0 := by
      generalize plS D (ch ++ xs) (b + i) = x at *
      generalize plS D (ch ++ xs) (b + W) = y at *
      clear hq hL hL' hbW e1 f1 c1 c2 c3 c4 ho hnd
      rcases hC with e | e | e <;> rw [e] at e3 f3 e2 ⊢ <;> omega
    generalize (ch ++ xs).length = n at *
    clear e1 e2 e3 f1 f2 f3 hL hL' c1 c2 c3 c4 ho hnd
    rcases hC with e | e | e <;> rw [e] at hm hm2 hq <;> omega
