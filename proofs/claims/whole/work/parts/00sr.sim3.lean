/-! make: the disk read again, all directories behind HERE. -/
abbrev simY (p : Nat) (nw : It) (Xs : List Nat) (z z' : SS) : Prop := (sIt z').length = (sIt z).length + 1 ∧ p ≤ (sIt z).length ∧ 1 ≤ p ∧ (∀ j, j < (sIt z).length → itr (sIt z') (shf p j) = shI p (itr (sIt z) j)) ∧ itr (sIt z') p = nw ∧ sLb z' = sLb z ∧ ∀ y, y ∈ sTk z' ↔ y ∈ sTk z ∨ y ∈ Xs
theorem simY_of {p : Nat} {nw : It} {Xs : List Nat} {z z' : SS} (h : simZ p nw Xs z z') : simY p nw Xs z z' := ⟨h.1, h.2.1, h.2.2.1, h.2.2.2.1, h.2.2.2.2.1, h.2.2.2.2.2.1, h.2.2.2.2.2.2.2⟩
def noPe (z : SS) : SS := ((sIt z, sLb z), sTk z, pe0)
theorem simZ_of {p : Nat} {nw : It} {Xs : List Nat} {z z' : SS} (h : simY p nw Xs z z') : simZ p nw Xs (noPe z) (noPe z') := ⟨h.1, h.2.1, h.2.2.1, h.2.2.2.1, h.2.2.2.2.1, h.2.2.2.2.2.1, rfl, h.2.2.2.2.2.2⟩
theorem dirS_simY {N i p : Nat} {nw : It} {Xs : List Nat} {D D' : Nat → Int32} {z z' z1 : SS} (h : hdOk N D) (hN : N ≤ 1024) (hn : numE N D D') (hI : agI D D' (sIt z)) (hz : simY p nw Xs z z') (hi : i < (sIt z).length) (hpa : ipa (itr (sIt z) i) < (sIt z).length) (hy : oldC N D D' Xs z z1) (e : dirS N D i z = .ok z1) : ∃ z1', dirS N D' (shf p i) z' = .ok z1' ∧ simY p nw Xs z1 z1' ∧ agI D D' (sIt z1) := by
  obtain ⟨z1', a, b, c⟩ := dirS_sim (z := noPe z) (z' := noPe z') h hN hn hI (simZ_of hz) hi hpa hy e
  exact ⟨z1', a, simY_of b, c⟩
theorem scL_sim2 {N p : Nat} {nw : It} {Xs : List Nat} {D D' : Nat → Int32} (h : hdOk N D) (hN : N ≤ 1024) (hn : numE N D D') : ∀ (d i : Nat) (fks : List Nat) (z : SS) (f1 : List Nat) (z1 : SS) (fks' : List Nat) (z' : SS), SI N D i (sIt z) (sTk z) → 1 ≤ (sIt z).length → ipa (itr (sIt z) 0) = 0 → agI D D' (sIt z) → simY p nw Xs z z' → p ≤ i → oldC N D D' Xs z z1 → scL N D d i fks z = .ok (f1, z1) → ∃ f1' z1', scL N D' d (i + 1) fks' z' = .ok (f1', z1') ∧ simY p nw Xs z1 z1' := by
  intro d
  induction d with
  | zero =>
    intro i fks z f1 z1 fks' z' _ _ _ _ hz _ _ e
    rw [scL] at e
    cases e
    exact ⟨fks', z', by rw [scL], hz⟩
  | succ d ih =>
    intro i fks z f1 z1 fks' z' a1 a2 a4 a3 hz hpi hy e
    rw [scL] at e ⊢
    by_cases g : i < (sIt z).length
    rotate_left
    · rw [if_neg g] at e
      cases e
      rw [if_neg (by rw [hz.1]; exact fun w => g (Nat.lt_of_succ_lt_succ w))]
      exact ⟨fks', z', rfl, hz⟩
    rw [if_pos g] at e
    rw [if_pos (by rw [hz.1]; exact Nat.succ_lt_succ g)]
    obtain ⟨z2, e1, e2⟩ := exb_ok e
    have hx := scL_ext _ _ _ _ _ _ e2
    have hsh : shf p i = i + 1 := shf_hi hpi
    have hpa : ipa (itr (sIt z) i) < (sIt z).length := by
      by_cases q : i = 0
      · rw [q, a4]; exact a2
      · exact Nat.lt_trans (a1.2.1 i (Nat.one_le_iff_ne_zero.mpr q) g).2.1 g
    have hdr : isDr D' (sIt z') (shf p i) ↔ isDr D (sIt z) i := sim_dr (N := N) (nw := nw) (z := noPe z) (z' := noPe z') a3 (simZ_of hz) g
    by_cases q : isDr D (sIt z) i
    · rw [cif_t q] at e1
      obtain ⟨s1, s2, s3⟩ := dirS_SI a1 a2 g q e1
      have hy1 : oldC N D D' Xs z z2 := fun x w1 w2 => hy x (ext_tk hx w1) w2
      obtain ⟨z2', c1, c2, c3⟩ := dirS_simY h hN hn a3 hz g hpa hy1 e1
      rw [hsh] at c1 hdr
      rw [cif_t (hdr.mpr q), c1, exb_o]
      exact ih (i + 1) _ z2 f1 z1 _ z2' s1 (Nat.le_trans a2 (ext_len s2)) (by rw [ext_itr s2 a2]; exact a4) c3 c2 (Nat.le_succ_of_le hpi) (fun x w1 w2 => hy x w1 (fun t => w2 (ext_tk s2 t))) e2
    · rw [cif_f q] at e1
      cases e1
      rw [hsh] at hdr
      rw [cif_f (fun y => q (hdr.mp y)), exb_o]
      exact ih (i + 1) _ z f1 z1 _ z' (SI_skip a1 g q) a2 a4 a3 hz (Nat.le_succ_of_le hpi) hy e2
theorem scL_sim1 {N p : Nat} {nw : It} {Xs Xs2 : List Nat} {D D' : Nat → Int32} (h : hdOk N D) (hN : N ≤ 1024) (hn : numE N D D') (hsub : ∀ x ∈ Xs, x ∈ Xs2) {z1 : SS} (hP : ∀ z z', simY p nw Xs z z' → agI D D' (sIt z) → ext z z1 → ∃ z'', cif (isDr D' (sIt z') p) (dirS N D' p z') (.ok z') = .ok z'' ∧ simY p nw Xs2 z z'') : ∀ (d i : Nat) (fks : List Nat) (z : SS) (f1 : List Nat) (fks' : List Nat) (z' : SS), SI N D i (sIt z) (sTk z) → 1 ≤ (sIt z).length → ipa (itr (sIt z) 0) = 0 → agI D D' (sIt z) → simY p nw Xs z z' → i ≤ p → oldC N D D' Xs2 z z1 → (sIt z1).length ≤ i + d → scL N D d i fks z = .ok (f1, z1) → ∃ f1' z1', scL N D' (d + 1) i fks' z' = .ok (f1', z1') ∧ simY p nw Xs2 z1 z1' := by
  intro d
  induction d with
  | zero =>
    intro i fks z f1 fks' z' a1 a2 a4 a3 hz hpi hy hf e
    have hl := ext_len (scL_ext _ _ _ _ _ _ e)
    have hzp := hz.2.1
    have ei : i = p := by clear hz hy a1 a3 e hP; omega
    obtain ⟨z'', c1, c2⟩ := hP z z' hz a3 (scL_ext _ _ _ _ _ _ e)
    rw [scL, ei, if_pos (by rw [hz.1]; exact Nat.lt_succ_of_le hzp), c1, exb_o]
    rw [ei] at e a1
    exact scL_sim2 h hN hn 0 p fks z f1 z1 _ z'' a1 a2 a4 a3 c2 (Nat.le_refl _) hy e
  | succ d ih =>
    intro i fks z f1 fks' z' a1 a2 a4 a3 hz hpi hy hf e
    have hx0 := scL_ext _ _ _ _ _ _ e
    have hzp := hz.2.1
    by_cases ei : i = p
    · obtain ⟨z'', c1, c2⟩ := hP z z' hz a3 hx0
      rw [scL, ei, if_pos (by rw [hz.1]; exact Nat.lt_succ_of_le hzp), c1, exb_o]
      rw [ei] at e a1
      exact scL_sim2 h hN hn (d + 1) p fks z f1 z1 _ z'' a1 a2 a4 a3 c2 (Nat.le_refl _) hy e
    have hip : i < p := Nat.lt_of_le_of_ne hpi ei
    have g : i < (sIt z).length := Nat.lt_of_lt_of_le hip hzp
    rw [scL, if_pos g] at e
    rw [scL, if_pos (by rw [hz.1]; exact Nat.lt_succ_of_lt g)]
    obtain ⟨z2, e1, e2⟩ := exb_ok e
    have hx := scL_ext _ _ _ _ _ _ e2
    have hsh : shf p i = i := shf_lo hip
    have hpa : ipa (itr (sIt z) i) < (sIt z).length := by
      by_cases q : i = 0
      · rw [q, a4]; exact a2
      · exact Nat.lt_trans (a1.2.1 i (Nat.one_le_iff_ne_zero.mpr q) g).2.1 g
    have hdr : isDr D' (sIt z') (shf p i) ↔ isDr D (sIt z) i := sim_dr (N := N) (nw := nw) (z := noPe z) (z' := noPe z') a3 (simZ_of hz) g
    have hf' : (sIt z1).length ≤ i + 1 + d := by rw [Nat.add_assoc, Nat.add_comm 1 d]; exact hf
    by_cases q : isDr D (sIt z) i
    · rw [cif_t q] at e1
      obtain ⟨s1, s2, s3⟩ := dirS_SI a1 a2 g q e1
      have hy1 : oldC N D D' Xs z z2 := fun x w1 w2 => ⟨⟨(hy x (ext_tk hx w1) w2).1.1, fun t => (hy x (ext_tk hx w1) w2).1.2 (hsub x t)⟩, (hy x (ext_tk hx w1) w2).2⟩
      obtain ⟨z2', c1, c2, c3⟩ := dirS_simY h hN hn a3 hz g hpa hy1 e1
      rw [hsh] at c1 hdr
      rw [cif_t (hdr.mpr q), c1, exb_o]
      exact ih (i + 1) _ z2 f1 _ z2' s1 (Nat.le_trans a2 (ext_len s2)) (by rw [ext_itr s2 a2]; exact a4) c3 c2 hip (fun x w1 w2 => hy x w1 (fun t => w2 (ext_tk s2 t))) hf' e2
    · rw [cif_f q] at e1
      cases e1
      rw [hsh] at hdr
      rw [cif_f (fun y => q (hdr.mp y)), exb_o]
      exact ih (i + 1) _ z f1 _ z' (SI_skip a1 g q) a2 a4 a3 hz hip hy hf' e2
