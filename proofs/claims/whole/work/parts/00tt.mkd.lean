/-! make: the changed disks. -/
def mkD (D X : Nat → Int32) (ch xs : List Nat) (b W e L : Nat) (nm : Nat → Nat) (us : List Nat) (dr o hcl : Nat) : Nat → Int32 := layM D (ch ++ xs) b W e L nm us dr o hcl (grN D (512 * ha D) xs (mkX D dr o X) ch)
def mkE (D X : Nat → Int32) (ch xs : List Nat) (b W un L' : Nat) (nm : Nat → Nat) (us : List Nat) (dr o hcl : Nat) : Nat → Int32 := layC D (ch ++ xs) b W un L' nm us dr o hcl (grN D (512 * ha D) xs (mkX D dr o X) ch)
theorem mk_dots {N dr o b W e L L' : Nat} {D X : Nat → Int32} {ch xs : List Nat} (h : mkP N D ch xs dr o b W e L L') : dr = 1 → ∀ q, plC D o ≤ q → q < plC D o + 64 → o1 (grN D (512 * ha D) xs (mkX D dr o X) ch) q = 0 ∧ (∀ i, i < W → ¬ inS (fun i => plS D (ch ++ xs) (b + i)) i q) := by
  intro g q q1 q2
  obtain ⟨c1, c2, c3, c4⟩ := mk_cl h
  have hC := (hd_facts h.1.1 h.1.2.2).1
  have g0 : dr ≠ 0 := by omega
  refine ⟨(mk_X1 h.1.1 h.1.2.2 (fun y => (c4 y).1) c2 c1 h.2.1.2.1 (Or.inr ?_)).2 ⟨o, List.mem_append_right _ (mkO_in g0), q1, by omega⟩, fun i hi w => ?_⟩
  · have := (plC_lt (j := 0) h.1.1 h.1.2.2 (c4 g0).1 (by omega)).1
    omega
  · have w1 : plS D (ch ++ xs) (b + i) ≤ q := w.1
    have w2 : q < plS D (ch ++ xs) (b + i) + 32 := w.2
    have := (mk_slot (s := b + i) (k := q - plS D (ch ++ xs) (b + i)) h (by have := h.2.2.2.1.2.2.2.2; omega) (by omega)).2.1 g0
    omega
theorem mk_disj {N dr o b W e L L' : Nat} {D : Nat → Int32} {ch xs : List Nat} (h : mkP N D ch xs dr o b W e L L') : disP (fun i => plS D (ch ++ xs) (b + i)) W := slots_dis h.1.1 h.1.2.2 h.2.1.2.2 (mk_cl h).2.2.1 (by rw [← h.2.2.2.1.2.1]; exact h.2.2.2.1.2.2.2.2)
theorem mk_aM {N dr o b W e L L' hcl : Nat} {D X : Nat → Int32} {ch xs us : List Nat} {nm : Nat → Nat} (h : mkP N D ch xs dr o b W e L L') (ho : o < 65536) (hh : hcl < 65536) : allX (fun i => plS D (ch ++ xs) (b + i)) W (smN nm 11) nm (if dr = 0 then 32 else 48) o us (e ≤ b + W ∧ b + W < L) (plS D (ch ++ xs) (b + W)) dr (plC D o) hcl (grN D (512 * ha D) xs (mkX D dr o X) ch) (mkD D X ch xs b W e L nm us dr o hcl) := all_M h.2.2.2.1.2.2.1 (mk_disj h) h.2.1.1 ho hh (mk_dots h)
theorem mk_aC {N dr o b W e L L' hcl un : Nat} {D X : Nat → Int32} {ch xs us : List Nat} {nm : Nat → Nat} (h : mkP N D ch xs dr o b W e L L') : allX (fun i => plS D (ch ++ xs) (b + i)) W (smN nm 11) nm (if dr = 0 then 32 else 48) o us (un < b + W ∧ b + W < L') (plS D (ch ++ xs) (b + W)) dr (plC D o) hcl (grN D (512 * ha D) xs (mkX D dr o X) ch) (mkE D X ch xs b W un L' nm us dr o hcl) := all_C h.2.2.2.1.2.2.1 (mk_disj h) h.2.1.1 (mk_dots h)
/-- away from what is laid -/
theorem mk_awy {N dr o b W e L L' hcl q : Nat} {D X : Nat → Int32} {ch xs us : List Nat} {nm : Nat → Nat} (h : mkP N D ch xs dr o b W e L L') (ho : o < 65536) (hh : hcl < 65536) (h1 : ∀ i, i < W → ¬ inS (fun i => plS D (ch ++ xs) (b + i)) i q) (h2 : e ≤ b + W → b + W < L → q ≠ plS D (ch ++ xs) (b + W)) (h3 : dr ≠ 0 → q < plC D o ∨ plC D o + 64 ≤ q) : o1 (mkD D X ch xs b W e L nm us dr o hcl) q = o1 (grN D (512 * ha D) xs (mkX D dr o X) ch) q := all_out (mk_aM h ho hh) h1 (fun w => h2 w.1 w.2) (fun w => h3 (by omega))
theorem mk_low {N dr o b W e L L' hcl q : Nat} {D X : Nat → Int32} {ch xs us : List Nat} {nm : Nat → Nat} (h : mkP N D ch xs dr o b W e L L') (ho : o < 65536) (hh : hcl < 65536) (hq : q < 512 * ha D) : o1 (mkD D X ch xs b W e L nm us dr o hcl) q = o1 (grN D (512 * ha D) xs (mkX D dr o X) ch) q := by
  have hbW := h.2.2.2.1.2.2.2.2
  have hLL : L ≤ L' := by rw [h.2.2.2.1.1, h.2.2.2.1.2.1, List.length_append]; exact Nat.mul_le_mul_right _ (Nat.mul_le_mul_right _ (Nat.le_add_right _ _))
  refine mk_awy h ho hh (fun i hi w => ?_) (fun _ g w => ?_) (fun g => Or.inl ?_)
  · have w1 : plS D (ch ++ xs) (b + i) ≤ q := w.1
    have := (mk_slot (s := b + i) (k := 0) h (by omega) (by decide)).1.1
    omega
  · have := (mk_slot (s := b + W) (k := 0) h (by omega) (by decide)).1.1
    omega
  · have hC := (hd_facts h.1.1 h.1.2.2).1
    have := (plC_lt (j := 0) h.1.1 h.1.2.2 ((mk_cl h).2.2.2 g).1 (by omega)).1
    omega
theorem mk_h0 {N dr o b W e L L' hcl q : Nat} {D X : Nat → Int32} {ch xs us : List Nat} {nm : Nat → Nat} (h : mkP N D ch xs dr o b W e L L') (ho : o < 65536) (hh : hcl < 65536) (hq : q < 512 * hv D) : o1 (mkD D X ch xs b W e L nm us dr o hcl) q = o1 X q := by
  obtain ⟨c1, c2, c3, c4⟩ := mk_cl h
  have hf := hd_facts h.1.1 h.1.2.2
  have hva : hv D ≤ ha D := by rw [hf.2.2.2.2.2.2.1]; exact Nat.le_add_right _ _
  rw [mk_low h ho hh (by omega)]
  refine (mk_X1 h.1.1 h.1.2.2 (fun y => (c4 y).1) c2 c1 h.2.1.2.1 (Or.inl hq)).1 ?_
  rintro ⟨x, x1, x2, x3⟩
  unfold plC at x2
  omega
theorem mk_ht {N dr o b W e L L' hcl : Nat} {D : Nat → Int32} {ch xs us : List Nat} {nm : Nat → Nat} (h : mkP N D ch xs dr o b W e L L') (ho : o < 65536) (hh : hcl < 65536) : ∀ q, 512 * hv D ≤ q → q < 512 * ha D → o1 (mkD D D ch xs b W e L nm us dr o hcl) q = o1 (lks D D (mkY dr o ++ grLs xs ch)) q := by
  intro q q1 q2
  obtain ⟨c1, c2, c3, c4⟩ := mk_cl h
  rw [mk_low h ho hh q2]
  exact (mk_tab h.1.1 h.1.2.2 (fun y => (c4 y).1) c2 c1 (fun _ _ _ => rfl)).2 q q1 q2
/-- the entries that are put -/
theorem mk_ls {N dr o b W e L L' : Nat} {D : Nat → Int32} {ch xs : List Nat} (h : mkP N D ch xs dr o b W e L L') : ∀ a ∈ mkY dr o ++ grLs xs ch, (a.1 ∈ ch ∨ a.1 ∈ xs ++ mkO dr o) ∧ (a.2 = 268435455 ∨ a.2 ∈ xs) := by
  intro a ha1
  rcases List.mem_append.mp ha1 with w | w
  · obtain ⟨w1, w2⟩ := mkY_mem w
    rw [w2]
    exact ⟨Or.inr (List.mem_append_right _ (mkO_in w1)), Or.inl rfl⟩
  · obtain ⟨e1, e2⟩ := grLs_mem _ _ a w
    exact ⟨e1.imp id (fun y => List.mem_append_left _ y), e2⟩
theorem mk_own {N dr o b W e L L' : Nat} {D : Nat → Int32} {ch xs : List Nat} (h : mkP N D ch xs dr o b W e L L') : (∀ x ∈ xs ++ mkO dr o, isCl N D x ∧ ent D x = 0) ∧ lsOk N D (mkY dr o ++ grLs xs ch) ∧ lsCl (mkY dr o ++ grLs xs ch) ∧ (∀ a ∈ mkY dr o ++ grLs xs ch, 2 ≤ a.1 ∧ (a.2 = 0 ∨ isCl N D a.2 ∨ 268435448 ≤ a.2)) := by
  obtain ⟨c1, c2, c3, c4⟩ := mk_cl h
  have hf := hd_facts h.1.1 h.1.2.2
  have hfr : ∀ x ∈ xs ++ mkO dr o, isCl N D x ∧ ent D x = 0 := fun x x1 => by
    rcases List.mem_append.mp x1 with w | w
    · exact h.2.2.1.2.1 x w
    · obtain ⟨w1, w2⟩ := mkO_mem w
      rw [w2]
      exact ⟨(c4 w1).1, (c4 w1).2.1⟩
  have hc : ∀ a ∈ mkY dr o ++ grLs xs ch, isCl N D a.1 := fun a ha1 => (mk_ls h a ha1).1.elim (c1 _) (fun y => (hfr _ y).1)
  refine ⟨hfr, fun a ha1 => ⟨by have := (hc a ha1).2; omega, ?_⟩, fun a ha1 => ?_, fun a ha1 => ⟨(hc a ha1).1, ?_⟩⟩
  · rcases (mk_ls h a ha1).2 with e | e
    · rw [e]; decide
    · have := (c2 _ e).2; omega
  · rcases (mk_ls h a ha1).2 with e | e
    · exact Or.inr (by rw [e]; decide)
    · exact Or.inl (by have := (c2 _ e).2; omega)
  · rcases (mk_ls h a ha1).2 with e | e
    · exact Or.inr (Or.inr (by rw [e]; decide))
    · exact Or.inr (Or.inl (c2 _ e))
/-- a slot that isn't laid, nor the end mark's -/
theorem mk_rest {N dr o b W e L L' hcl s k : Nat} {D X : Nat → Int32} {ch xs us : List Nat} {nm : Nat → Nat} (h : mkP N D ch xs dr o b W e L L') (ho : o < 65536) (hh : hcl < 65536) (hs : s < L') (hs2 : s < b ∨ b + W ≤ s) (hk0 : k < 32) (hem : ¬ (s = b + W ∧ k = 0 ∧ e ≤ b + W ∧ b + W < L)) : o1 (mkD D X ch xs b W e L nm us dr o hcl) (plS D (ch ++ xs) s + k) = o1 (grN D (512 * ha D) xs (mkX D dr o X) ch) (plS D (ch ++ xs) s + k) := by
  have hbW := h.2.2.2.1.2.2.2.2
  have hLL : L ≤ L' := by rw [h.2.2.2.1.1, h.2.2.2.1.2.1, List.length_append]; exact Nat.mul_le_mul_right _ (Nat.mul_le_mul_right _ (Nat.le_add_right _ _))
  have hsl := mk_slot (k := k) h hs hk0
  refine mk_awy h ho hh (fun i hi w => ?_) (fun g1 g2 w => ?_) (fun g => ?_)
  · exact mk_apart (k := k) h hs (show b + i < L' by omega) (by omega) hk0 w
  · by_cases q : s = b + W
    · exact hem ⟨q, by rw [q] at w; omega, g1, g2⟩
    · exact mk_apart (k := k) h hs (show b + W < L' by omega) q hk0 ⟨by omega, by omega⟩
  · have := hsl.2.1 g
    have hC := (hd_facts h.1.1 h.1.2.2).1
    omega
