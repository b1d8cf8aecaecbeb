/-! make: the disk read again, directory by directory. -/
theorem dirL_sim {N i fk fk' lo tot tot' p : Nat} {nw : It} {Xs ch ch' : List Nat} {D D' : Nat → Int32} (hn : numE N D D') (hfk : 1 ≤ fk) (hf2 : (p ≤ fk ∧ fk' = fk + 1) ∨ (fk ≤ p ∧ fk' = fk)) (hsl : ∀ s, lo ≤ s → s < tot → slq D' (plS D ch s) D (plS D ch s)) (hch : ∀ s, s < tot → plS D ch' s = plS D ch s) (hend : ∀ s, tot ≤ s → s < tot' → o1 D' (plS D ch' s) = 0) (htt : tot ≤ tot') : ∀ (d s : Nat) (y : SS) (s' : Nat) (y1 : SS) (d' : Nat) (y' : SS), lo ≤ s → s + d = tot → s + d' = tot' → agI D D' (sIt y) → i < (sIt y).length → ipa (itr (sIt y) i) < (sIt y).length → simZ p nw Xs y y' → (fk' ≤ p → ∀ j, (sIt y).length ≤ j → j < (sIt y1).length → ¬ (alk (inm nw) (inm (itr (sIt y1) j)) ∨ ssP D' (isp nw) (isp (itr (sIt y1) j)))) → (∀ x ∈ sTk y1, x ∉ sTk y → ent D' x = ent D x ∧ x ∉ Xs) → dirL N D i fk ch d s y = .ok (s', y1) → ∃ y1', dirL N D' (shf p i) fk' ch' d' s y' = .ok (s', y1') ∧ simZ p nw Xs y1 y1' ∧ agI D D' (sIt y1) := by
  intro d
  induction d with
  | zero =>
    intro s y s' y1 d' y' hlo h1 h2 h3 h4 h5 h6 h7 h8 q
    rw [dirL] at q
    cases q
    refine ⟨y', ?_, h6, h3⟩
    cases d' with
    | zero => rw [dirL]
    | succ d' => rw [dirL, plS_num hn, cif_t (hend s (Nat.le_of_eq h1.symm) (by rw [← h2]; exact Nat.lt_add_of_pos_right (Nat.succ_pos _)))]
  | succ d ih =>
    intro s y s' y1 d' y' hlo h1 h2 h3 h4 h5 h6 h7 h8 q
    obtain ⟨d', rfl⟩ : ∃ m, d' = m + 1 := ⟨d' - 1, by clear h3 h4 h5 h6 h7 h8 q hsl hch hend; omega⟩
    have hs : s < tot := by clear h3 h4 h5 h6 h7 h8 q hsl hch hend; omega
    have hp := hsl s hlo hs
    rw [dirL] at q ⊢
    rw [plS_num hn, hch s hs, slq_0 hp]
    by_cases g : o1 D (plS D ch s) = 0
    · rw [cif_t g] at q ⊢
      cases q
      exact ⟨y', rfl, h6, h3⟩
    · rw [cif_f g] at q ⊢
      obtain ⟨y2, q1, q2⟩ := exb_ok q
      have x1 := slS_ext q1
      have x2 := dirL_ext _ _ _ _ _ q2
      have hl := ext_len x1
      have hl2 := ext_len x2
      obtain ⟨y2', e1, e2⟩ := slS_sim (z1 := y2) hn hp h3 h6 h4 h5 hfk hf2 (fun w it hit => by
        have hlen : (sIt y2).length = (sIt y).length + 1 := by rw [hit]; exact List.length_append
        have := h7 w (sIt y).length (Nat.le_refl _) (Nat.lt_of_lt_of_le (by rw [hlen]; exact Nat.lt_succ_self _) hl2)
        rw [ext_itr x2 (by rw [hlen]; exact Nat.lt_succ_self _), hit, itr_last] at this
        exact this) (fun x w1 w2 => h8 x (ext_tk x2 w1) w2) q1
      rw [e1, exb_o]
      refine ih (s + 1) y2 s' y1 d' y2' (Nat.le_succ_of_le hlo) (by rw [← h1]; exact Nat.succ_add_eq_add_succ s d) (by rw [← h2]; exact Nat.succ_add_eq_add_succ s d') ?_ (Nat.lt_of_lt_of_le h4 hl) (by rw [ext_itr x1 h4]; exact Nat.lt_of_lt_of_le h5 hl) e2 (fun w j w1 w2 => h7 w j (Nat.le_trans hl w1) w2) (fun x w1 w2 => h8 x w1 (fun t => w2 (ext_tk x1 t))) q2
      rcases (slS_at q1).1 with w | ⟨it, w1, w2⟩
      · rw [w]; exact h3
      · rw [w2]
        exact agI_add h3 (Nat.lt_of_le_of_lt (Nat.zero_le _) h4) (by rw [w1]; exact hp)
/-- what is new in the clusters taken is old on the disk -/
abbrev oldC (N : Nat) (D D' : Nat → Int32) (Xs : List Nat) (z z1 : SS) : Prop := ∀ x ∈ sTk z1, x ∉ sTk z → (ent D' x = ent D x ∧ x ∉ Xs) ∧ ∀ r, r < 512 * hc D → o1 D' (plC D x + r) = o1 D (plC D x + r)
theorem old_sl {N s : Nat} {D D' : Nat → Int32} {ch : List Nat} (h : hdOk N D) (hN : N ≤ 1024) (hb : ∀ x ∈ ch, ∀ r, r < 512 * hc D → o1 D' (plC D x + r) = o1 D (plC D x + r)) (hcl : ∀ x ∈ ch, isCl N D x) (hs : s < ch.length * 16 * hc D) : slq D' (plS D ch s) D (plS D ch s) := by
  obtain ⟨-, -, p3, -⟩ := plS_lt h hN hcl hs
  obtain ⟨e1, e2, -⟩ := plS_off (D := D) (ch := ch) (s := s) h hN
  intro j hj
  rw [e1, Nat.add_assoc]
  exact hb _ p3 _ (by omega)
theorem fol_cl {N : Nat} {D : Nat → Int32} : ∀ (f x : Nat) (tk ch : List Nat), fol N D f x tk = some ch → ∀ y ∈ ch, isCl N D y := by
  intro f
  induction f with
  | zero => intro x tk ch h; cases h
  | succ f ih =>
    intro x tk ch h y hy
    rw [fol] at h
    by_cases c : isCl N D x ∧ x ∉ tk ∧ ent D x ≠ 0
    rotate_left
    · rw [if_neg c] at h; cases h
    rw [if_pos c] at h
    by_cases e : 268435448 ≤ ent D x
    · rw [if_pos e] at h
      cases h
      rcases List.mem_cons.mp hy with w | w
      · rw [w]; exact c.1
      · cases w
    · rw [if_neg e] at h
      cases g : fol N D f (ent D x) (x :: tk) with
      | none => rw [g] at h; cases h
      | some l =>
        rw [g] at h
        cases h
        rcases List.mem_cons.mp hy with w | w
        · rw [w]; exact c.1
        · exact ih _ _ _ g y w
theorem dirC_ok {N i : Nat} {D : Nat → Int32} {ch : List Nat} {z z1 : SS} (e : dirC N D i ch z = .ok z1) : ∃ s', dirL N D i (sIt z).length ch (ch.length * 16 * hc D) 0 ((sIt z, sLb z), ch ++ sTk z, pe0) = .ok (s', z1) ∧ pM (sPe z1) = 0 ∧ (i = 0 ∨ 2 ≤ s') := by
  unfold dirC at e
  obtain ⟨x, e1, e2⟩ := exb_ok e
  obtain ⟨s', z2⟩ := x
  unfold dirE at e2
  by_cases w : pM (sPe (s', z2).2) = 0 ∧ (i = 0 ∨ 2 ≤ (s', z2).1)
  · rw [cif_t w] at e2; cases e2
    exact ⟨s', e1, w⟩
  · rw [cif_f w] at e2; cases e2
theorem dirC_of {N i s' : Nat} {D : Nat → Int32} {ch : List Nat} {z z1 : SS} (e : dirL N D i (sIt z).length ch (ch.length * 16 * hc D) 0 ((sIt z, sLb z), ch ++ sTk z, pe0) = .ok (s', z1)) (h1 : pM (sPe z1) = 0) (h2 : i = 0 ∨ 2 ≤ s') : dirC N D i ch z = .ok z1 := by
  unfold dirC
  rw [e, exb_o]
  unfold dirE
  exact cif_t ⟨h1, h2⟩
theorem dirS_sim {N i p : Nat} {nw : It} {Xs : List Nat} {D D' : Nat → Int32} {z z' z1 : SS} (h : hdOk N D) (hN : N ≤ 1024) (hn : numE N D D') (hI : agI D D' (sIt z)) (hz : simZ p nw Xs z z') (hi : i < (sIt z).length) (hpa : ipa (itr (sIt z) i) < (sIt z).length) (hy : oldC N D D' Xs z z1) (e : dirS N D i z = .ok z1) : ∃ z1', dirS N D' (shf p i) z' = .ok z1' ∧ simZ p nw Xs z1 z1' ∧ agI D D' (sIt z1) := by
  unfold dirS at e ⊢
  rw [sim_beg hn hI hz hi]
  cases hfo : fo N D (begI D (sIt z) i) (sTk z) with
  | none => rw [hfo] at e; cases e
  | some ch =>
    rw [hfo] at e
    have e : dirC N D i ch z = .ok z1 := e
    obtain ⟨s', e1, e2, e3⟩ := dirC_ok e
    have x1 := dirL_ext _ _ _ _ _ e1
    have hch : ∀ y ∈ ch, y ∈ sTk z1 ∧ y ∉ sTk z := fun y w => ⟨ext_tk x1 (List.mem_append_left _ w), (fol_nt _ _ _ _ hfo y w).1⟩
    have hcl : ∀ y ∈ ch, isCl N D y := fol_cl _ _ _ _ hfo
    have hf : fo N D' (begI D (sIt z) i) (sTk z') = some ch := fol_sim hn.2.2.2 _ _ _ _ _ hfo (fun y w => (hy y (hch y w).1 (hch y w).2).1.1) (fun y w t => by
      rcases (hz.2.2.2.2.2.2.2 y).mp t with u | u
      · exact u
      · exact absurd u (hy y (hch y w).1 (hch y w).2).1.2)
    rw [hf]
    have hz0 : simZ p nw Xs ((sIt z, sLb z), ch ++ sTk z, pe0) ((sIt z', sLb z'), ch ++ sTk z', pe0) := ⟨hz.1, hz.2.1, hz.2.2.1, hz.2.2.2.1, hz.2.2.2.2.1, hz.2.2.2.2.2.1, rfl, fun y => by
      show y ∈ ch ++ sTk z' ↔ y ∈ ch ++ sTk z ∨ y ∈ Xs
      rw [List.mem_append, List.mem_append, hz.2.2.2.2.2.2.2 y, or_assoc]⟩
    obtain ⟨z1', c1, c2, c3⟩ := dirL_sim (nw := nw) (Xs := Xs) (p := p) (lo := 0) (fk' := (sIt z).length + 1) (tot := ch.length * 16 * hc D) (tot' := ch.length * 16 * hc D) (ch := ch) (ch' := ch) hn (Nat.lt_of_le_of_lt (Nat.zero_le _) hi) (Or.inl ⟨hz.2.1, rfl⟩) (fun s _ hs => old_sl h hN (fun x w => (hy x (hch x w).1 (hch x w).2).2) hcl hs) (fun _ _ => rfl) (fun s a b => absurd b (Nat.not_lt_of_le a)) (Nat.le_refl _) _ 0 ((sIt z, sLb z), ch ++ sTk z, pe0) s' z1 (ch.length * 16 * hc D) ((sIt z', sLb z'), ch ++ sTk z', pe0) (Nat.zero_le _) (Nat.zero_add _) (Nat.zero_add _) hI hi hpa hz0 (fun w => absurd w (Nat.not_le_of_lt (Nat.lt_succ_of_le hz.2.1))) (fun x w1 w2 => (hy x w1 (fun t => w2 (List.mem_append_right _ t))).1) e1
    refine ⟨z1', ?_, c2, c3⟩
    show dirC N D' (shf p i) ch z' = .ok z1'
    refine dirC_of (s' := s') (by rw [hn.1, hz.1]; exact c1) (by rw [c2.2.2.2.2.2.2.1]; exact e2) (e3.imp (fun w => (shf_0 hz.2.2.1).mpr w) id)
theorem scL_fuel {N : Nat} {D : Nat → Int32} : ∀ (d' d i : Nat) (fks : List Nat) (z : SS) (f1 : List Nat) (z1 : SS), d' ≤ d → (sIt z1).length ≤ i + d' → scL N D d i fks z = .ok (f1, z1) → scL N D d' i fks z = .ok (f1, z1) := by
  intro d'
  induction d' with
  | zero =>
    intro d i fks z f1 z1 h1 h2 e
    have hx := ext_len (scL_ext _ _ _ _ _ _ e)
    cases d with
    | zero => exact e
    | succ d =>
      rw [scL, if_neg (by omega)] at e
      rw [scL]
      exact e
  | succ d' ih =>
    intro d i fks z f1 z1 h1 h2 e
    obtain ⟨d, rfl⟩ : ∃ m, d = m + 1 := ⟨d - 1, by omega⟩
    rw [scL] at e ⊢
    by_cases g : i < (sIt z).length
    · rw [if_pos g] at e ⊢
      obtain ⟨z2, e1, e2⟩ := exb_ok e
      rw [e1, exb_o]
      exact ih d (i + 1) _ z2 f1 z1 (by omega) (by omega) e2
    · rw [if_neg g] at e ⊢
      exact e
theorem scL_fks {N : Nat} {D : Nat → Int32} : ∀ (d i : Nat) (fks : List Nat) (z : SS) (f1 : List Nat) (z1 : SS), scL N D d i fks z = .ok (f1, z1) → ∃ l, f1 = fks ++ l := by
  intro d
  induction d with
  | zero => intro i fks z f1 z1 e; rw [scL] at e; cases e; exact ⟨[], (List.append_nil _).symm⟩
  | succ d ih =>
    intro i fks z f1 z1 e
    rw [scL] at e
    by_cases g : i < (sIt z).length
    · rw [if_pos g] at e
      obtain ⟨z2, e1, e2⟩ := exb_ok e
      obtain ⟨l, el⟩ := ih _ _ _ _ _ e2
      exact ⟨(sIt z).length :: l, by rw [el, List.append_assoc]; rfl⟩
    · rw [if_neg g] at e; cases e; exact ⟨[], (List.append_nil _).symm⟩
theorem sim_dr {N p j : Nat} {nw : It} {Xs : List Nat} {D D' : Nat → Int32} {z z' : SS} (hI : agI D D' (sIt z)) (hz : simZ p nw Xs z z') (hj : j < (sIt z).length) : isDr D' (sIt z') (shf p j) ↔ isDr D (sIt z) j := by
  unfold isDr
  rw [shf_0 hz.2.2.1, hz.2.2.2.1 j hj]
  by_cases w : j = 0
  · exact ⟨fun _ => Or.inl w, fun _ => Or.inl w⟩
  · rw [show isp (shI p (itr (sIt z) j)) = isp (itr (sIt z) j) from rfl, hI j (Nat.one_le_iff_ne_zero.mpr w) hj 11 (by decide)]
