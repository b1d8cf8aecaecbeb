/-! make: the whole disk read again. -/
theorem scL_pre2 {N h : Nat} {D D' : Nat → Int32} {f' : List Nat} {z' : SS} (hn : numE N D D') (hk0 : kept N D D' (sIt z') h) (hh : h < (sIt z').length) : ∀ (d : Nat) (fks : List Nat) (z : SS), SI N D fks.length (sIt z) (sTk z) → 1 ≤ (sIt z).length → agI D D' (sIt z) → (ipa (itr (sIt z) 0) = 0) → scL N D d fks.length fks z = .ok (f', z') → fks.length ≤ h → h < fks.length + d → ∃ dh fh zh, fh.length = h ∧ scL N D' d fks.length fks z = scL N D' dh h fh zh ∧ ext zh z' ∧ agI D D' (sIt zh) ∧ h < (sIt zh).length ∧ dh + h = d + fks.length ∧ scL N D d fks.length fks z = scL N D dh h fh zh ∧ SI N D h (sIt zh) (sTk zh) ∧ ipa (itr (sIt zh) 0) = 0 := by
  intro d
  induction d with
  | zero => intro fks z a1 a2 a3 a4 a5 a6 a7; omega
  | succ d ih =>
    intro fks z a1 a2 a3 a4 a5 a6 a7
    have hx0 := scL_ext _ _ _ _ _ _ a5
    have hlt : fks.length < (sIt z).length := by
      refine Nat.lt_of_not_le fun w => ?_
      rw [scL, if_neg (by omega)] at a5
      cases a5
      omega
    by_cases w : h = fks.length
    · exact ⟨d + 1, fks, z, w.symm, by rw [w], hx0, a3, by omega, by omega, by rw [w], by rw [w]; exact a1, a4⟩
    have a5' := a5
    rw [scL, if_pos hlt] at a5
    obtain ⟨z1, e1, e2⟩ := exb_ok a5
    have hx := scL_ext _ _ _ _ _ _ e2
    have hl1 : (fks ++ [(sIt z).length]).length = fks.length + 1 := by rw [List.length_append]; rfl
    have hdr : isDr D' (sIt z) fks.length = isDr D (sIt z) fks.length := by
      unfold isDr
      by_cases q : fks.length = 0
      · exact propext ⟨fun _ => Or.inl q, fun _ => Or.inl q⟩
      · rw [(a3 fks.length (by omega) hlt) 11 (by decide)]
    have hpa : ipa (itr (sIt z) fks.length) < (sIt z).length := by
      by_cases q : fks.length = 0
      · rw [q, a4]; omega
      · have := (a1.2.1 fks.length (by omega) hlt).2.1
        omega
    have st : SI N D (fks.length + 1) (sIt z1) (sTk z1) ∧ ext z z1 ∧ cif (isDr D' (sIt z) fks.length) (dirS N D' fks.length z) (.ok z) = .ok z1 ∧ agI D D' (sIt z1) := by
      rw [hdr]
      by_cases q : isDr D (sIt z) fks.length
      rotate_left
      · rw [cif_f q] at e1 ⊢
        cases e1
        exact ⟨SI_skip a1 hlt q, ext_rf _, rfl, a3⟩
      rw [cif_t q] at e1 ⊢
      obtain ⟨s1, s2, s3⟩ := dirS_SI a1 a2 hlt q e1
      have hI : itr (sIt z') fks.length = itr (sIt z) fks.length := ext_itr hx0 hlt
      have hya : ∀ x ∈ sTk z1, ent D' x = ent D x := by
        intro x hx1
        obtain ⟨j, j1, j2, j3⟩ := (s1.2.2.2.2.1 x).mp hx1
        have hj := ext_itr hx j1
        have hjl : j < (sIt z').length := Nat.lt_of_lt_of_le j1 (ext_len hx)
        have hc1 : chI N D (sIt z') j = chI N D (sIt z1) j := by unfold chI begI; rw [hj]
        have hd1 : isDr D (sIt z') j ↔ isDr D (sIt z1) j := by unfold isDr; rw [hj]
        refine hk0.2 j hjl ?_ x (by rw [hc1]; exact j3)
        by_cases y : isDr D (sIt z1) j
        · refine Or.inl ⟨hd1.mpr y, ?_⟩
          rcases j2 with j2 | j2
          · exact absurd y j2
          · omega
        · refine Or.inr ⟨fun y' => y (hd1.mp y'), ?_⟩
          rw [hj]
          have := (s1.2.1 j (Nat.one_le_iff_ne_zero.mpr fun y' => y (Or.inl y')) j1).1
          omega
      have hsa : ∀ ch, fo N D (begI D (sIt z) fks.length) (sTk z) = some ch → ∀ s, s < ch.length * 16 * hc D → slq D' (plS D ch s) D (plS D ch s) := by
        intro ch hfo s hs
        have hc1 : chI N D (sIt z') fks.length = ch := by
          unfold chI begI
          rw [hI]
          exact (fo_cOf hfo).2
        have := hk0.1 fks.length (by omega) (by have := ext_len hx0; omega) (by unfold isDr; rw [hI]; exact q) s (by rw [hc1]; exact hs)
        rw [hc1] at this
        exact this
      obtain ⟨c1, c2⟩ := dirS_cong (D' := D') hn a3 hlt hpa hya hsa e1
      exact ⟨s1, s2, c1, c2⟩
    obtain ⟨s1, s2, s3, s4⟩ := st
    have hl2 := ext_len s2
    obtain ⟨dh, fh, zh, b1, b2, b3, b4, b5, b6, b7, b8, b9⟩ := ih (fks ++ [(sIt z).length]) z1 (by rw [hl1]; exact s1) (by omega) s4 (by rw [ext_itr s2 (by omega)]; exact a4) (by rw [hl1]; exact e2) (by rw [hl1]; omega) (by rw [hl1]; omega)
    refine ⟨dh, fh, zh, b1, ?_, b3, b4, b5, by rw [hl1] at b6; omega, ?_, b8, b9⟩
    · rw [scL, if_pos hlt, s3, exb_o, ← b2, hl1]
    · rw [scL, if_pos hlt, e1, exb_o, ← b7, hl1]
