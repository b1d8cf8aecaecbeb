/-! A change of HERE's clusters and of their entries keeps the invariant. -/
theorem lks_same {D : Nat → Int32} {q : Nat} : ∀ (l : List (Nat × Nat)) (X : Nat → Int32), (∀ a ∈ l, ∀ t, t < hy D → q < pE (hv D) (hz D) t a.1 ∨ pE (hv D) (hz D) t a.1 + 4 ≤ q) → o1 (lks D X l) q = o1 X q := by
  intro l
  induction l with
  | nil => intro X _; rfl
  | cons a l ih =>
    intro X hl
    rw [lks, ih _ (fun b hb => hl b (List.mem_cons_of_mem _ hb))]
    unfold lk
    exact sE_out _ (hl a List.mem_cons_self)
theorem tab_old {N t y : Nat} {D : Nat → Int32} (h : hdOk N D) (hN : N ≤ 1024) (hT : tabOk N D) (hy0 : y < hk N D + 2) (ht : t < hy D) : o4 D (pE (hv D) (hz D) t y) % 2 ^ 28 = ent D y := by
  have hY := (hd_facts h hN).2.2.2.1
  unfold ent
  rcases Nat.lt_or_ge t 1 with w | w
  · obtain rfl : t = 0 := by omega
    unfold pE
    rw [Nat.zero_mul, Nat.add_zero]
  · obtain rfl : t = 1 := by omega
    rw [(hT y hy0).2.2.2 (by omega)]
    unfold pE
    rw [Nat.one_mul]
theorem tab_cls {N y : Nat} {D : Nat → Int32} (h : hdOk N D) (hN : N ≤ 1024) (hT : tabOk N D) (hy0 : y < hk N D + 2) : ent D y ≤ 600 ∨ 268435448 ≤ ent D y := by
  have hf := hd_facts h hN
  obtain ⟨a, b, c, -⟩ := hT y hy0
  rcases (show y = 0 ∨ y = 1 ∨ 2 ≤ y by omega) with w | w | w
  · rw [a w]; exact Or.inr (Nat.le_refl _)
  · rw [b w]; exact Or.inr (by decide)
  · rcases c w with e | e | e
    · rw [e]; exact Or.inl (by decide)
    · have := e.2
      exact Or.inl (by omega)
    · exact Or.inr e
/-- entries that are put: of numbers of use -/
abbrev lsCl (l : List (Nat × Nat)) : Prop := ∀ a ∈ l, a.2 ≤ 600 ∨ 268435448 ≤ a.2
theorem capOk_tab {N m : Nat} {D X : Nat → Int32} {l : List (Nat × Nat)} (L : List Nat) (h : hdOk N D) (hN : N ≤ 1024) (hT : tabOk N D) (hl : lsOk N D l) (hcl : lsCl l) (h0 : ∀ q, q < 512 * hv D → o1 X q = o1 D q) (ht : ∀ q, 512 * hv D ≤ q → q < 512 * ha D → o1 X q = o1 (lks D D l) q) (hd : ∀ v, v < 16 * N → 512 * ha D ≤ 32 * v → v ∉ L → cpP X (32 * v) → cpP D (32 * v)) (hcp : capOk N D m) : capOk N X (m + L.length) := by
  refine capOk_more L hcp fun v hv1 hvL hc0 => ?_
  have hf := hd_facts h hN
  by_cases w1 : 512 * ha D ≤ 32 * v
  · exact hd v hv1 w1 hvL hc0
  by_cases w2 : 32 * v < 512 * hv D
  · exact (cpP_slq fun j hj => h0 _ (by omega)).mp hc0
  have hreg : ∀ j, j < 32 → 512 * hv D ≤ 32 * v + j ∧ 32 * v + j < 512 * ha D := fun j hj => by omega
  by_cases w3 : ∃ j, j < 32 ∧ ∃ a ∈ l, ∃ t, t < hy D ∧ pE (hv D) (hz D) t a.1 ≤ 32 * v + j ∧ 32 * v + j < pE (hv D) (hz D) t a.1 + 4
  · obtain ⟨j, hj, a, ha1, t, ht1, g1, g2⟩ := w3
    exfalso
    have hax := (hl a ha1).1
    have hy8 : 8 * (a.1 / 8) < hk N D + 2 := by omega
    have hbase : pE (hv D) (hz D) t (8 * (a.1 / 8)) = 32 * v := by
      unfold pE at g1 g2 ⊢
      generalize hv D + t * hz D = b at *
      omega
    refine nocap_of (X := X) (p := 32 * v) ?_ hc0
    have e4 : o4 X (32 * v) = o4 (lks D D l) (32 * v) := by
      have b0 := ht (32 * v) (hreg 0 (by decide)).1 (hreg 0 (by decide)).2
      have b1 := ht (32 * v + 1) (hreg 1 (by decide)).1 (hreg 1 (by decide)).2
      have b2 := ht (32 * v + 2) (hreg 2 (by decide)).1 (hreg 2 (by decide)).2
      have b3 := ht (32 * v + 3) (hreg 3 (by decide)).1 (hreg 3 (by decide)).2
      unfold o4 o2
      rw [b0, b1, b2, show 32 * v + 2 + 1 = 32 * v + 3 from rfl, b3]
    rw [e4, ← hbase, lks_e4 h hN hy8 ht1 l D hl, tab_old h hN hT hy8 ht1]
    rcases lkV_or (y := 8 * (a.1 / 8)) l (ent D (8 * (a.1 / 8))) with e | ⟨b, b1, b2, b3⟩
    · rw [e]; exact tab_cls h hN hT hy8
    · rw [b3]; exact hcl b b1
  · refine (cpP_slq fun j hj => ?_).mp hc0
    rw [ht _ (hreg j hj).1 (hreg j hj).2]
    refine lks_same l D fun a ha1 t ht1 => Classical.byContradiction fun y => w3 ⟨j, hj, a, ha1, t, ht1, by omega, by omega⟩
theorem ent_tab {N y : Nat} {D X : Nat → Int32} {l : List (Nat × Nat)} (h : hdOk N D) (hN : N ≤ 1024) (hl : lsOk N D l) (h0 : ∀ q, q < 512 * hv D → o1 X q = o1 D q) (ht : ∀ q, 512 * hv D ≤ q → q < 512 * ha D → o1 X q = o1 (lks D D l) q) (hy0 : y < hk N D + 2) : ent X y = lkV l y (ent D y) := by
  have hf := hd_facts h hN
  have e2 : hv X = hv D := by
    show o2 X 14 = o2 D 14
    unfold o2
    rw [h0 14 (by omega), h0 (14 + 1) (by omega)]
  have hp := lk_hp h hN hy0 (show 0 < hy D by omega)
  have hb : ∀ k, k < 4 → o1 X (pE (hv D) (hz D) 0 y + k) = o1 (lks D D l) (pE (hv D) (hz D) 0 y + k) := fun k hk0 => ht _ (by omega) (by omega)
  have e0 : 512 * hv D + 4 * y = pE (hv D) (hz D) 0 y := by unfold pE; rw [Nat.zero_mul, Nat.add_zero]
  have e4 : o4 X (pE (hv D) (hz D) 0 y) = o4 (lks D D l) (pE (hv D) (hz D) 0 y) := by
    have b0 := hb 0 (by decide)
    have b1 := hb 1 (by decide)
    have b2 := hb 2 (by decide)
    have b3 := hb 3 (by decide)
    rw [Nat.add_zero] at b0
    unfold o4 o2
    rw [b0, b1, b2, show pE (hv D) (hz D) 0 y + 2 + 1 = pE (hv D) (hz D) 0 y + 3 from rfl, b3]
  unfold ent
  rw [e2, e0, e4, lks_e4 h hN hy0 (by omega) l D hl]
theorem ivA_tab {N t m hh : Nat} {D E X Xe : Nat → Int32} {fks : List Nat} {z : SS} {G : CG} {S S' : CS} {T T' : MS} {l : List (Nat × Nat)} (L : List Nat) (h : ivA N t m D E G S T) (e : trE N D = .ok (fks, z)) (v : tv N m D E fks z hh G S T) (hS : coE S' = coE S) (hT : coN T' = coN T) (hD : T'.v_disk = X) (hE : S'.w_Dk_bytes = Xe) (hl0 : T'.v_looked = 0) (hs : S'.v_Vt_stale = 1) (hl : lsOk N D l) (hcl : lsCl l) (hown : ∀ a ∈ l, own N D (sIt z) hh a.1) (h0 : ∀ q, q < 512 * hv D → o1 X q = o1 D q) (ht : ∀ q, 512 * hv D ≤ q → q < 512 * ha D → o1 X q = o1 (lks D D l) q) (hd : ∀ v, v < 16 * N → 512 * ha D ≤ 32 * v → v ∉ L → cpP X (32 * v) → cpP D (32 * v)) (hdt : ∀ p, 512 * ha D ≤ p → p < 512 * N → ¬ own N D (sIt z) hh (clOf D p) → o1 X p = o1 D p) (hag : agF N T.v_ran X Xe) (hm : m + L.length ≤ 4000) : ivA N t (m + L.length) X Xe G S' T' := by
  have hN := h.1.1.2.1
  have ho := v.2.2.2.1
  have hTb := v.2.2.2.2.1
  have hff := hd_facts ho hN
  obtain ⟨k1, k2⟩ := kept_own (D' := X) hN v (fun q hq => h0 q (by omega)) hdt (fun x hx hno => by
    rw [ent_tab ho hN hl h0 ht (by have := hx.2; omega)]
    exact lkV_no l fun a ha1 ea => hno (by rw [← ea]; exact hown a ha1))
  refine ivA_chg h e v hS hT hD hE hl0 hs k1 k2 hag (fun q hq => ?_) (capOk_tab L ho hN hTb hl hcl h0 ht hd h.1.2.2.2.2.2.2.1.2.2.1) hm
  rw [h0 q (by omega)]
  exact h.1.2.2.2.2.2.2.1.2.1 q hq
/-- the same of what both sides show -/
theorem ag_tab {N : Nat} {ran : Int32} {D E X Xe : Nat → Int32} {l : List (Nat × Nat)} (hN : N ≤ 1024) (h : agF N ran D E) (ho : hdOk N D) (hl : lsOk N D l) (h0 : ∀ q, q < 512 * hv D → o1 X q = o1 D q) (ht : ∀ q, 512 * hv D ≤ q → q < 512 * ha D → o1 X q = o1 (lks D D l) q) (hX : ∀ q, q < 512 * N → o1 E q = o1 D q → o1 Xe q = o1 X q) (hne : ∀ x, isCl N D x → ent D x = 0 → lkV l x (ent D x) ≠ 0 → ∀ j, j < 512 * hc D → o1 Xe (plC D x + j) = o1 X (plC D x + j)) : agF N ran X Xe := by
  have hf := hd_facts ho hN
  rcases h with h | ⟨h1, h2, h3⟩
  · exact Or.inl fun p hp => hX p hp (h p hp)
  have hnum := num_of (N := N) (D := D) (D' := X) (fun q hq => h0 q (by omega))
  have hoX : hdOk N X := by
    let Y : Nat → Int32 := fun q => if q < 512 * hv D then X q else D q
    have hY : ∀ q, o1 Y q = o1 D q := fun q => by
      show ub (if q < 512 * hv D then X q else D q) = o1 D q
      by_cases w : q < 512 * hv D
      · rw [if_pos w]; exact h0 q w
      · rw [if_neg w]; rfl
    have a1 : hdOk N Y := (agH_ok ⟨fun p _ => hY p, fun p _ _ => hY p⟩).mpr ho
    have e : agH Y Y := ⟨fun _ _ => rfl, fun _ _ _ => rfl⟩
    have g1 : ∀ p, p < 512 → o1 X p = o1 D p := fun p hp => h0 p (by omega)
    have g2 : ∀ p, p + 1 < 512 → o2 X p = o2 D p := fun p hp => by unfold o2; rw [g1 p (by omega), g1 (p + 1) hp]
    have g4 : ∀ p, p + 3 < 512 → o4 X p = o4 D p := fun p hp => by unfold o4; rw [g2 p (by omega), g2 (p + 2) (by omega)]
    have e1 : hc X = hc D := hnum.1
    have e2 : hv X = hv D := g2 14 (by decide)
    have e3 : hy X = hy D := g1 16 (by decide)
    have e4 : hz X = hz D := g4 36 (by decide)
    unfold hdOk hdA hdB at ho ⊢
    rw [e1, e2, e3, e4, hnum.2.1, hnum.2.2.1, hnum.2.2.2, g2 11 (by decide), g2 17 (by decide), g2 19 (by decide), g2 22 (by decide), g4 32 (by decide), g2 48 (by decide), g2 50 (by decide), g2 510 (by decide)]
    exact ho
  refine Or.inr ⟨h1, hoX, fun p hp hs => ?_⟩
  have ec : clOf X p = clOf D p := by unfold clOf; rw [hnum.1, hnum.2.1]
  unfold shn at hs
  rw [hnum.2.1, ec] at hs
  unfold isCl at hs
  rw [hnum.2.2.2] at hs
  rcases hs with hs | ⟨hs1, hs2⟩
  · exact hX p hp (h3 p hp (Or.inl hs))
  · rw [ent_tab ho hN hl h0 ht (by omega)] at hs2
    by_cases w : p < 512 * ha D
    · exact hX p hp (h3 p hp (Or.inl w))
    by_cases w2 : ent D (clOf D p) = 0
    · have hC := hf.1
      have hpl : plC D (clOf D p) + (p - plC D (clOf D p)) = p ∧ p - plC D (clOf D p) < 512 * hc D := by
        unfold plC clOf
        obtain ⟨q, rfl⟩ : ∃ q, p = 512 * ha D + q := ⟨p - 512 * ha D, by omega⟩
        rw [show (512 * ha D + q) / 512 - ha D = q / 512 by omega, Nat.add_sub_cancel]
        have g1 := Nat.div_add_mod (q / 512) (hc D)
        have g2 := Nat.mod_lt (q / 512) (show 0 < hc D by omega)
        rw [Nat.mul_comm] at g1
        generalize q / 512 / hc D * hc D = b at *
        generalize q / 512 % hc D = r at *
        omega
      have := hne _ hs1 w2 hs2 _ hpl.2
      rw [hpl.1] at this
      exact this
    · exact hX p hp (h3 p hp (Or.inr ⟨hs1, w2⟩))
