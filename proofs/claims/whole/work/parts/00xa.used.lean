/-! The class's disk and the reference's image are alike on every used block. -/
theorem inW_cov {rm l : List Nat} {fi c t : Nat} (ht : t < c) : ∃ Y, ∀ X, agW X (inW rm fi l c) → bkA X (rm.getD (fi + t) 0) Y := by
  by_cases c0 : t = 0
  · rw [c0, Nat.add_zero]
    exact ⟨ptX l 12 Zd 256, fun X hX => agW_bl hX (fun w hw => by
      unfold inW
      rw [if_neg (by omega)]
      exact List.mem_append_left _ hw)⟩
  by_cases c1 : t = 1
  · rw [c1]
    exact ⟨dbX rm fi Zd (c - 2), fun X hX => agW_bl hX (fun w hw => by
      unfold inW
      rw [if_neg (show ¬ c ≤ 1 by omega)]
      exact List.mem_append_right _ (List.mem_append_left _ hw))⟩
  · exact ⟨ptX l (12 + (t - 1) * 256) Zd 256, fun X hX => agW_bl hX (fun w hw => by
      unfold inW
      exact List.mem_append_right _ (List.mem_append_right _ (inF_mem _ 2 _ (by omega) (by omega) w hw)))⟩
theorem dwG_cov {D : Nat → Int32} {fks : List Nat} {its : List It} {i b0 : Nat} {rm : List Nat} : ∀ (n e : Nat) (Z : Nat → Int32) (a la t : Nat), a = (pkS (eSz fks its i) e).2 → t + 1 = b0 + (pkS (eSz fks its i) e).1 → ∀ s, t ≤ s → s < b0 + (pkS (eSz fks its i) (e + n)).1 → ∃ Y, ∀ X, agW X (dwG D fks its i rm n e Z a la t) → bkA X (rm.getD s 0) Y := by
  intro n
  induction n with
  | zero =>
    intro e Z a la t e2 e3 s h1 h2
    rw [Nat.add_zero] at h2
    rw [show s = t by omega]
    exact ⟨st Z (la + 4) (1024 - la) 2, fun X hX => by rw [dwG] at hX; exact agW_bl hX (fun w hw => hw)⟩
  | succ n ih =>
    intro e Z a la t e2 e3 s h1 h2
    rw [show e + (n + 1) = e + 1 + n by omega] at h2
    by_cases g : a + elN (eSz fks its i e) ≤ 1024
    · have g' := g
      rw [e2] at g'
      have hpf := pk_fit g'
      obtain ⟨Y, hY⟩ := ih (e + 1) (enD D fks its i e Z a) (a + elN (eSz fks its i e)) a t (by rw [hpf, e2]) (by rw [hpf]; exact e3) s h1 h2
      exact ⟨Y, fun X hX => hY X (by rw [dwG, if_pos g] at hX; exact hX)⟩
    · have g' := g
      rw [e2] at g'
      have hpf := pk_new g'
      by_cases c : s = t
      · rw [c]
        exact ⟨st Z (la + 4) (1024 - la) 2, fun X hX => by
          rw [dwG, if_neg g] at hX
          exact agW_bl hX (fun w hw => List.mem_append_left _ hw)⟩
      · obtain ⟨Y, hY⟩ := ih (e + 1) (enD D fks its i e Zd 0) (elN (eSz fks its i e)) 0 (t + 1) (by rw [hpf]) (by rw [hpf]; show _ = b0 + ((pkS (eSz fks its i) e).1 + 1); omega) s (by omega) h2
        exact ⟨Y, fun X hX => hY X (by rw [dwG, if_neg g] at hX; exact fun w hw => hX w (List.mem_append_right _ hw))⟩
theorem getD_of {l : List Nat} {b : Nat} (h : b ∈ l) : ∃ s, s < l.length ∧ l.getD s 0 = b := by
  obtain ⟨s, hs, e⟩ := List.getElem_of_mem h
  exact ⟨s, hs, by rw [List.getD_eq_getElem?_getD, List.getElem?_eq_getElem hs, Option.getD_some, e]⟩
theorem tB_chn {i s : Nat} {N : Nat} {D : Nat → Int32} {fks : List Nat} {z : SS} {A H B P g0 r to : Nat} {gl : Nat → Nat} {E F : Nat → Int32} (h : tB N D fks z A H B P g0 r to gl E F) (hi : i < (sIt z).length) (hs : s < (chI N D (sIt z) i).length * H) : ∀ x, x < 1024 → o1 E (1024 * (chL A H gl (chI N D (sIt z) i)).getD s 0 + x) = o1 D (1024 * srB A H (chI N D (sIt z) i) s + x) := fun x hx => by
  have hm := tB_num h
  have hH : 1 ≤ H := by omega
  have hsd : s / H < (chI N D (sIt z) i).length := (Nat.div_lt_iff_lt_mul hH).mpr hs
  have hsm := Nat.mod_lt s hH
  have hc0 := (h.1.2.2.1.2.2.2.1 i hi).2 _ (getD_mem hsd)
  have hH2 : 1024 * (s % H) + x < 1024 * H := by omega
  have := h.2.2.1.1.2.2.1 ((chI N D (sIt z) i).getD (s / H) 0) hc0.1.1 hc0.1.2 hc0.2 (1024 * (s % H) + x) hH2
  rw [chL_get hH _ _ hs]
  unfold srB
  rw [show 1024 * (bOf A H gl ((chI N D (sIt z) i).getD (s / H) 0) + s % H) + x = 1024 * bOf A H gl ((chI N D (sIt z) i).getD (s / H) 0) + (1024 * (s % H) + x) by omega, this]
  congr 1
  omega
theorem tB_us {b : Nat} {N : Nat} {D : Nat → Int32} {fks : List Nat} {z : SS} {A H B P g0 r to : Nat} {gl : Nat → Nat} {E F : Nat → Int32} (h : tB N D fks z A H B P g0 r to gl E F) (hb : usd N D (sIt z) A H gl (rml A H (fxd A P r g0) (ent D) gl (hk N D)) (bdN N fks D (sIt z) A H) (fxd A P r g0) b) : ∀ x, x < 1024 → o1 E (1024 * b + x) = o1 F (1024 * b + x) := by
  have hm := tB_num h
  have hbs := bd_sum (N := N) (fks := fks) (D := D) (its := sIt z) (A := A) (H := H)
  have hly := h.2.2.2.1
  have hdM := h.2.2.1.1
  have two : ∀ {L : List Wr} {b : Nat}, agW E L → agW F L → (∃ Y, ∀ X, agW X L → bkA X b Y) → ∀ x, x < 1024 → o1 E (1024 * b + x) = o1 F (1024 * b + x) := fun h1 h2 ⟨Y, hY⟩ x hx => by rw [hY E h1 x hx, hY F h2 x hx]
  rcases hb with y | ⟨q, q1, q2⟩ | ⟨y1, y2⟩ | y
  · exact tB_fx h y
  · rw [q2]
    by_cases c3 : q < 3
    · have hk3 : ∀ X, agW X (kpS (rml A H (fxd A P r g0) (ent D) gl (hk N D)) (sYs D)) → ∀ j, j < 2 → ∃ w ∈ kpS (rml A H (fxd A P r g0) (ent D) gl (hk N D)) (sYs D), w.1 = 2 * (rml A H (fxd A P r g0) (ent D) gl (hk N D)).getD q 0 + j := fun X _ j hj => by
        unfold kpS
        have hqj : (q = 0 ∨ q = 1 ∨ q = 2) ∧ (j = 0 ∨ j = 1) := by omega
        rcases hqj with ⟨e1 | e1 | e1, e2 | e2⟩ <;> rw [e1, e2]
        · exact ⟨_, List.mem_cons_self, rfl⟩
        · exact ⟨_, List.mem_cons_of_mem _ List.mem_cons_self, rfl⟩
        · exact ⟨_, List.mem_cons_of_mem _ (List.mem_cons_of_mem _ List.mem_cons_self), rfl⟩
        · exact ⟨_, List.mem_cons_of_mem _ (List.mem_cons_of_mem _ (List.mem_cons_of_mem _ List.mem_cons_self)), rfl⟩
        · exact ⟨_, List.mem_cons_of_mem _ (List.mem_cons_of_mem _ (List.mem_cons_of_mem _ (List.mem_cons_of_mem _ List.mem_cons_self))), rfl⟩
        · exact ⟨_, List.mem_cons_of_mem _ (List.mem_cons_of_mem _ (List.mem_cons_of_mem _ (List.mem_cons_of_mem _ (List.mem_cons_of_mem _ (List.mem_singleton.mpr rfl))))), rfl⟩
      intro x hx
      obtain ⟨w, w1, w2⟩ := hk3 E hdM.2.2.2.1 (x / 512) (by omega)
      have a1 := hdM.2.2.2.1 w w1 (x % 512) (Nat.mod_lt _ (by decide))
      have a2 := hly.1 w w1 (x % 512) (Nat.mod_lt _ (by decide))
      rw [w2, show 512 * (2 * (rml A H (fxd A P r g0) (ent D) gl (hk N D)).getD q 0 + x / 512) + x % 512 = 1024 * (rml A H (fxd A P r g0) (ent D) gl (hk N D)).getD q 0 + x by omega] at a1 a2
      rw [a1, a2]
    by_cases c4 : q < 3 + indN (rcB N D (sIt z) A H)
    · have := inW_cov (rm := rml A H (fxd A P r g0) (ent D) gl (hk N D)) (l := recL N D (sIt z) A H gl (rml A H (fxd A P r g0) (ent D) gl (hk N D))) (fi := 3) (c := indN (recL N D (sIt z) A H gl (rml A H (fxd A P r g0) (ent D) gl (hk N D))).length) (t := q - 3) (by rw [(tB_recl h).1]; omega)
      rw [show 3 + (q - 3) = q by omega] at this
      exact two hdM.2.2.2.2.1 hly.2.2.2.1 this
    have inI : ∀ i t, i < (sIt z).length → t < indN (cif (isDr D (sIt z) i) (flB fks (sIt z) i) (fbN D (sIt z) i)) → q = fiN fks D (sIt z) (3 + indN (rcB N D (sIt z) A H)) i + t → ∀ x, x < 1024 → o1 E (1024 * (rml A H (fxd A P r g0) (ent D) gl (hk N D)).getD q 0 + x) = o1 F (1024 * (rml A H (fxd A P r g0) (ent D) gl (hk N D)).getD q 0 + x) := fun i t hi ht e => by
      rw [e]
      refine two (L := inW (rml A H (fxd A P r g0) (ent D) gl (hk N D)) (fiN fks D (sIt z) (3 + indN (rcB N D (sIt z) A H)) i) (ownL N D fks (sIt z) A H (3 + indN (rcB N D (sIt z) A H)) gl (rml A H (fxd A P r g0) (ent D) gl (hk N D)) i) (indN (ownL N D fks (sIt z) A H (3 + indN (rcB N D (sIt z) A H)) gl (rml A H (fxd A P r g0) (ent D) gl (hk N D)) i).length)) (tB_item h hi).2 ?_ (inW_cov (by rw [(tB_own h hi).1]; exact ht))
      by_cases d : isDr D (sIt z) i
      · exact (hly.2.2.2.2.1 i hi d).2.1
      · exact (hly.2.2.2.2.2.1 i hi d).2.1
    by_cases c5 : q < 3 + indN (rcB N D (sIt z) A H) + sumN (dBI fks D (sIt z)) (sIt z).length
    · obtain ⟨i, i1, i2, i3⟩ := sumN_find (f := dBI fks D (sIt z)) (q := q - (3 + indN (rcB N D (sIt z) A H))) (sIt z).length (by omega)
      have d : isDr D (sIt z) i := by
        apply Classical.byContradiction
        intro d
        have e : dBI fks D (sIt z) i = 0 := cif_f d
        omega
      have e : dBI fks D (sIt z) i = flB fks (sIt z) i + indN (flB fks (sIt z) i) := cif_t d
      have eb : boN fks D (sIt z) (3 + indN (rcB N D (sIt z) A H)) i = 3 + indN (rcB N D (sIt z) A H) + sumN (dBI fks D (sIt z)) i := cif_t d
      have ef : fiN fks D (sIt z) (3 + indN (rcB N D (sIt z) A H)) i = boN fks D (sIt z) (3 + indN (rcB N D (sIt z) A H)) i + flB fks (sIt z) i := by unfold fiN bbN; rw [cif_t d]
      by_cases c6 : q < fiN fks D (sIt z) (3 + indN (rcB N D (sIt z) A H)) i
      · refine two (L := dwG D fks (sIt z) i (rml A H (fxd A P r g0) (ent D) gl (hk N D)) (eNo fks (sIt z) i) 0 Zd 0 0 (boN fks D (sIt z) (3 + indN (rcB N D (sIt z) A H)) i)) (fun w hw => hdM.2.2.2.2.2 w ((owF_mem _ 0 i (Nat.zero_le _) (by omega)).1 d w hw)) (hly.2.2.2.2.1 i i1 d).1 (dwG_cov (eNo fks (sIt z) i) 0 Zd 0 0 (boN fks D (sIt z) (3 + indN (rcB N D (sIt z) A H)) i) rfl rfl q (by omega) ?_)
        rw [Nat.zero_add]
        show q < boN fks D (sIt z) (3 + indN (rcB N D (sIt z) A H)) i + flB fks (sIt z) i
        omega
      · exact inI i (q - fiN fks D (sIt z) (3 + indN (rcB N D (sIt z) A H)) i) i1 (by rw [cif_t d]; omega) (by omega)
    · obtain ⟨i, i1, i2, i3⟩ := sumN_find (f := fBI D (sIt z)) (q := q - (3 + indN (rcB N D (sIt z) A H) + sumN (dBI fks D (sIt z)) (sIt z).length)) (sIt z).length (by omega)
      have d : ¬ isDr D (sIt z) i := by
        intro d
        have e : fBI D (sIt z) i = 0 := cif_t d
        omega
      have e : fBI D (sIt z) i = indN (fbN D (sIt z) i) := cif_f d
      have ef : fiN fks D (sIt z) (3 + indN (rcB N D (sIt z) A H)) i = 3 + indN (rcB N D (sIt z) A H) + sumN (dBI fks D (sIt z)) (sIt z).length + sumN (fBI D (sIt z)) i := by unfold fiN bbN boN; rw [cif_f d, cif_f d]; rfl
      exact inI i (q - fiN fks D (sIt z) (3 + indN (rcB N D (sIt z) A H)) i) i1 (by rw [cif_f d]; omega) (by omega)
  · intro x hx
    rw [hdM.2.1 _ (by omega) (by omega), hly.2.1 _ (by omega) (by omega)]
  · obtain ⟨i, i1, i2⟩ := (kLs_mem _).mp y
    intro x hx
    by_cases d : isDr D (sIt z) i
    · unfold kLi at i2
      rw [cif_t d] at i2
      obtain ⟨s, s1, s2⟩ := getD_of i2
      rw [chL_len] at s1
      rw [← s2, tB_chn h i1 s1 x hx]
      exact (hly.2.2.1 i i1 d s s1 x hx).symm
    · unfold kLi at i2
      rw [cif_f d] at i2
      obtain ⟨s, s1, s2⟩ := getD_of i2
      have hfb := h.1.2.2.1.2.2.2.2.2.1 i i1 d
      rw [List.length_take, chL_len] at s1
      have hs : s < fbN D (sIt z) i := by omega
      have e2 : ((chL A H gl (chI N D (sIt z) i)).take (fbN D (sIt z) i)).getD s 0 = (chL A H gl (chI N D (sIt z) i)).getD s 0 := by rw [List.getD_eq_getElem?_getD, List.getElem?_take, if_pos hs, ← List.getD_eq_getElem?_getD]
      have hF := (hly.2.2.2.2.2.1 i i1 d).1 s hs x hx
      have e3 : (ownL N D fks (sIt z) A H (3 + indN (rcB N D (sIt z) A H)) gl (rml A H (fxd A P r g0) (ent D) gl (hk N D)) i).getD s 0 = b := by
        unfold ownL
        rw [cif_f d, s2]
      rw [e3] at hF
      rw [hF, ← s2, e2, tB_chn h i1 (by omega) x hx]
      rfl
