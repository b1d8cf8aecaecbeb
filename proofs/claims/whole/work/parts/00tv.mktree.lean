/-! make: the tree of the changed disk, from what is known of it. -/
theorem here_dots {N m hh : Nat} {D E : Nat → Int32} {fks : List Nat} {z : SS} {G : CG} {S : CS} {T : MS} (hN : N ≤ 1024) (etr : trE N D = .ok (fks, z)) (v : tv N m D E fks z hh G S T) (h1 : 1 ≤ hh) : ∀ s, s < 2 → o1 D (plS D (chI N D (sIt z) hh) s) = 46 := by
  have hh0 := v.2.2.1.1
  have hdr := v.2.2.1.2.1
  have h42 := v.2.2.2.2.2.1.1.2.1
  have hC := (hd_facts v.2.2.2.1 hN).1
  have hc1 := (here_geo hN v).1
  clear v
  obtain ⟨-, -, es, -⟩ := trE_scL etr
  obtain ⟨dh, fh, zh, b1, -, b3, b4, b5, b6, b7, b8, b9⟩ := scL_pre2 (h := hh) (D' := D) (f' := fks) (z' := z) ⟨rfl, rfl, rfl, rfl⟩ ⟨fun _ _ _ _ _ _ _ _ => rfl, fun _ _ _ _ _ => rfl⟩ hh0 5000 [] z0 (SI_0 N D) (Nat.le_refl 1) (fun _ _ _ _ _ => rfl) rfl es (Nat.zero_le _) (by show hh < 0 + 5000; omega)
  have b7 : scL N D 5000 0 [] z0 = scL N D dh hh fh zh := b7
  have b6 : dh + hh = 5000 + 0 := b6
  rw [b7] at es
  obtain ⟨d', rfl⟩ : ∃ n, dh = n + 1 := ⟨dh - 1, by omega⟩
  rw [scL, if_pos b5] at es
  obtain ⟨z1, e1, -⟩ := exb_ok es
  have hIh : itr (sIt z) hh = itr (sIt zh) hh := ext_itr b3 b5
  have hdh : isDr D (sIt zh) hh := by unfold isDr at hdr ⊢; rw [← hIh]; exact hdr
  have hbg : begI D (sIt zh) hh = begI D (sIt z) hh := by unfold begI; rw [hIh]
  rw [cif_t hdh] at e1
  unfold dirS at e1
  cases hfo : fo N D (begI D (sIt zh) hh) (sTk zh) with
  | none => rw [hfo] at e1; cases e1
  | some c =>
    rw [hfo] at e1
    have e1 : dirC N D hh c zh = .ok z1 := e1
    have hce : chI N D (sIt z) hh = c := by
      unfold chI
      rw [← hbg]
      exact (fo_cOf hfo).2
    rw [hce] at hc1 ⊢
    obtain ⟨s', q1, -, q3⟩ := dirC_ok e1
    have q3 : 2 ≤ s' := q3.resolve_left (by omega)
    obtain ⟨n, hn0⟩ : ∃ n, c.length * 16 * hc D = n + 1 + 1 := ⟨c.length * 16 * hc D - 2, by
      have : 1 * 16 * 2 ≤ c.length * 16 * hc D := Nat.mul_le_mul (Nat.mul_le_mul_right _ hc1) (by omega)
      omega⟩
    rw [hn0, dirL] at q1
    have dt : ∀ (p s i : Nat) (z2 z3 : SS) (fk : Nat), 1 ≤ i → s < 2 → slS N D i fk s p z2 = .ok z3 → o1 D p = 46 := fun p s i z2 z3 fk g1 g2 g3 => by
      unfold slS at g3
      rw [cif_t ⟨g1, g2⟩] at g3
      by_cases w : dtP D (sIt z2) p i s
      · have := w.1 0 (by decide)
        rw [Nat.add_zero, if_pos (Nat.zero_le _)] at this
        exact this
      · rw [cif_f w] at g3; cases g3
    by_cases g : o1 D (plS D c 0) = 0
    · rw [cif_t g] at q1
      cases q1
      omega
    · rw [cif_f g] at q1
      obtain ⟨z2, k1, k2⟩ := exb_ok q1
      have a0 := dt _ 0 _ _ _ _ h1 (by decide) k1
      rw [dirL] at k2
      by_cases g2 : o1 D (plS D c (0 + 1)) = 0
      · rw [cif_t g2] at k2
        cases k2
        omega
      · rw [cif_f g2] at k2
        obtain ⟨z3, k3, -⟩ := exb_ok k2
        have a1 := dt _ 1 _ _ _ _ h1 (by decide) k3
        intro s hs
        rcases (show s = 0 ∨ s = 1 by omega) with e | e
        · rw [e]; exact a0
        · rw [e]; exact a1
theorem rn_dots {bt : Nat → Nat} {L e W s : Nat} (h0 : ∀ s, s < 2 → bt s = 46) (he : enE bt L e) (hs : stE bt L e W s) (hL : 2 ≤ L) (hW : 1 ≤ W) : 2 ≤ rnF bt e s := by
  have e2 : 2 ≤ e := Nat.le_of_not_lt fun w => by
    have a := he.2.1 (by omega)
    rw [h0 e w] at a
    cases a
  refine Nat.le_of_not_lt fun w => ?_
  by_cases g : 1 < s
  · rcases rnF_fr (bt := bt) (e := e) s 1 (by omega) g with y | y
    · omega
    · rw [h0 1 (by decide)] at y; cases y
  · have hsl := hs.2.1
    rcases (show s = 0 ∨ s = 1 by omega) with y | y
    · rw [y] at hsl; omega
    · have : rnF bt e 1 = 1 := by
        rw [rnF, if_neg]
        rintro (q | q)
        · omega
        · rw [h0 0 (by decide)] at q; cases q
      rw [y, this] at hsl
      omega
theorem hd_new {N : Nat} {D X : Nat → Int32} (ho : hdOk N D) (hN : N ≤ 1024) (h0 : ∀ q, q < 512 * hv D → o1 X q = o1 D q) : hdOk N X ∧ numE N D X ∧ (hv X = hv D ∧ hy X = hy D ∧ hz X = hz D ∧ hk N X = hk N D) := by
  have hf := hd_facts ho hN
  have hnum := num_of (N := N) (D := D) (D' := X) (fun q hq => h0 q (by omega))
  have g1 : ∀ p, p < 512 → o1 X p = o1 D p := fun p hp => h0 p (by omega)
  have g2 : ∀ p, p + 1 < 512 → o2 X p = o2 D p := fun p hp => by unfold o2; rw [g1 p (by omega), g1 (p + 1) hp]
  have g4 : ∀ p, p + 3 < 512 → o4 X p = o4 D p := fun p hp => by unfold o4; rw [g2 p (by omega), g2 (p + 2) (by omega)]
  have e1 : hc X = hc D := hnum.1
  have e2 : hv X = hv D := g2 14 (by decide)
  have e3 : hy X = hy D := g1 16 (by decide)
  have e4 : hz X = hz D := g4 36 (by decide)
  refine ⟨?_, hnum, e2, e3, e4, hnum.2.2.2⟩
  unfold hdOk hdA hdB at ho ⊢
  rw [e1, e2, e3, e4, hnum.2.1, hnum.2.2.1, hnum.2.2.2, g2 11 (by decide), g2 17 (by decide), g2 19 (by decide), g2 22 (by decide), g4 32 (by decide), g2 48 (by decide), g2 50 (by decide), g2 510 (by decide)]
  exact ho
theorem shX_nm {nm : Nat → Nat} {x y : Nat} (h : shX nm x y) : (∀ q, q < 11 → nm q < 256) ∧ 33 ≤ nm 0 ∧ nm 0 ≤ 126 := by
  obtain ⟨h1, h2, h3, h4, h5, h6, h7⟩ := h
  refine ⟨fun q hq => ?_, ?_⟩
  · by_cases a : q < x
    · have := h4 q a; omega
    · by_cases b : q < 8
      · have := h5 q (by omega) b; omega
      · by_cases c : q < 8 + y
        · have := h6 q (by omega) c; omega
        · have := h7 q (by omega) hq; omega
  · have := h4 0 (by omega)
    omega
