theorem dirL_ext {N i fk : Nat} {D : Nat → Int32} {ch : List Nat} : ∀ (d s : Nat) (y : SS) (s' : Nat) (y' : SS), dirL N D i fk ch d s y = .ok (s', y') → ext y y' := by
  intro d
  induction d with
  | zero => intro s y s' y' q; rw [dirL] at q; cases q; exact ext_rf _
  | succ d ih =>
    intro s y s' y' q
    rw [dirL] at q
    by_cases g : o1 D (plS D ch s) = 0
    · rw [cif_t g] at q; cases q; exact ext_rf _
    · rw [cif_f g] at q
      obtain ⟨y1, q1, q2⟩ := exb_ok q
      exact ext_tr (slS_ext q1) (ih _ _ _ _ q2)
theorem ext_tk {a b : SS} (h : ext a b) {x : Nat} (hx : x ∈ sTk a) : x ∈ sTk b := by
  obtain ⟨-, l, e⟩ := h
  rw [e]
  exact List.mem_append_right _ hx
theorem agI_add {D D' : Nat → Int32} {its : List It} {x : It} (h : agI D D' its) (h1 : 1 ≤ its.length) (hx : slq D' (isp x) D (isp x)) : agI D D' (its ++ [x]) := by
  intro j g1 g2
  rw [List.length_append] at g2
  have g2 : j < its.length + 1 := g2
  by_cases e : j = its.length
  · subst e
    rw [itr_last]
    exact hx
  · rw [itr_ap (by omega)]
    exact h j g1 (by omega)
theorem plS_num {N : Nat} {D D' : Nat → Int32} (hn : numE N D D') (ch : List Nat) (s : Nat) : plS D' ch s = plS D ch s := by
  unfold plS
  rw [hn.1, hn.2.1]
theorem dirL_cong {N i fk tot : Nat} {D D' : Nat → Int32} {ch : List Nat} (hn : numE N D D') (hfk : 1 ≤ fk) (hsl : ∀ s, s < tot → slq D' (plS D ch s) D (plS D ch s)) : ∀ (d s : Nat) (y : SS) (s' : Nat) (y' : SS), s + d ≤ tot → agI D D' (sIt y) → i < (sIt y).length → ipa (itr (sIt y) i) < (sIt y).length → (∀ x ∈ sTk y', ent D' x = ent D x) → dirL N D i fk ch d s y = .ok (s', y') → dirL N D' i fk ch d s y = .ok (s', y') ∧ agI D D' (sIt y') := by
  intro d
  induction d with
  | zero => intro s y s' y' h1 h2 h3 h4 h5 q; rw [dirL] at q ⊢; cases q; exact ⟨rfl, h2⟩
  | succ d ih =>
    intro s y s' y' h1 h2 h3 h4 h5 q
    rw [dirL] at q ⊢
    have hp := hsl s (by omega)
    rw [plS_num hn, slq_0 hp]
    by_cases g : o1 D (plS D ch s) = 0
    · rw [cif_t g] at q ⊢; cases q; exact ⟨rfl, h2⟩
    · rw [cif_f g] at q ⊢
      obtain ⟨y1, q1, q2⟩ := exb_ok q
      have x1 := slS_ext q1
      have x2 := dirL_ext _ _ _ _ _ q2
      have hl := ext_len x1
      rw [slS_cong hn hp h2 h3 h4 hfk (fun x w => h5 x (ext_tk x2 w)) q1, exb_o]
      refine ih (s + 1) y1 s' y' (by omega) ?_ (by omega) (by rw [ext_itr x1 h3]; omega) h5 q2
      rcases (slS_at q1).1 with w | ⟨it, w1, w2⟩
      · rw [w]; exact h2
      · rw [w2]
        exact agI_add h2 (by omega) (by rw [w1]; exact hp)
theorem dirS_cong {N i : Nat} {D D' : Nat → Int32} {z z' : SS} (hn : numE N D D') (hI : agI D D' (sIt z)) (hi : i < (sIt z).length) (hpa : ipa (itr (sIt z) i) < (sIt z).length) (hy : ∀ x ∈ sTk z', ent D' x = ent D x) (hsl : ∀ ch, fo N D (begI D (sIt z) i) (sTk z) = some ch → ∀ s, s < ch.length * 16 * hc D → slq D' (plS D ch s) D (plS D ch s)) (e : dirS N D i z = .ok z') : dirS N D' i z = .ok z' ∧ agI D D' (sIt z') := by
  have hb : begI D' (sIt z) i = begI D (sIt z) i := by
    unfold begI
    by_cases w : i = 0
    · rw [if_pos w, if_pos w, hn.2.2.1]
    · rw [if_neg w, if_neg w, slq_fc (hI i (by omega) hi)]
  unfold dirS at e ⊢
  rw [hb]
  cases hfo : fo N D (begI D (sIt z) i) (sTk z) with
  | none => rw [hfo] at e; cases e
  | some ch =>
    rw [hfo] at e
    have e : dirC N D i ch z = .ok z' := e
    have e0 := e
    unfold dirC at e
    obtain ⟨x, e1, e2⟩ := exb_ok e
    obtain ⟨s', z1⟩ := x
    have hz : z1 = z' := by
      unfold dirE at e2
      by_cases w : pM (sPe (s', z1).2) = 0 ∧ (i = 0 ∨ 2 ≤ (s', z1).1)
      · rw [cif_t w] at e2; cases e2; rfl
      · rw [cif_f w] at e2; cases e2
    subst hz
    have x1 := dirL_ext _ _ _ _ _ e1
    obtain ⟨c1, c2⟩ := dirL_cong (tot := ch.length * 16 * hc D) (D' := D') hn (by omega) (hsl ch hfo) _ 0 ((sIt z, sLb z), ch ++ sTk z, pe0) s' z1 (by omega) hI hi hpa hy e1
    have hf : fo N D' (begI D (sIt z) i) (sTk z) = some ch := fol_cong hn.2.2.2 _ _ _ _ hfo (fun y w => hy y (ext_tk x1 (List.mem_append_left _ w)))
    rw [hf]
    refine ⟨?_, c2⟩
    show dirC N D' i ch z = .ok z1
    unfold dirC
    rw [hn.1, c1, exb_o]
    exact e2
theorem scL_ext {N : Nat} {D : Nat → Int32} : ∀ (d i : Nat) (fks : List Nat) (z : SS) (f' : List Nat) (z' : SS), scL N D d i fks z = .ok (f', z') → ext z z' := by
  intro d
  induction d with
  | zero => intro i fks z f' z' e; rw [scL] at e; cases e; exact ext_rf _
  | succ d ih =>
    intro i fks z f' z' e
    rw [scL] at e
    by_cases g : i < (sIt z).length
    rotate_left
    · rw [if_neg g] at e; cases e; exact ext_rf _
    rw [if_pos g] at e
    obtain ⟨z1, e1, e2⟩ := exb_ok e
    refine ext_tr ?_ (ih _ _ _ _ _ e2)
    by_cases d : isDr D (sIt z) i
    rotate_left
    · rw [cif_f d] at e1; cases e1; exact ext_rf _
    rw [cif_t d] at e1
    unfold dirS at e1
    cases hfo : fo N D (begI D (sIt z) i) (sTk z) with
    | none => rw [hfo] at e1; cases e1
    | some ch =>
      rw [hfo] at e1
      have e1 : dirC N D i ch z = .ok z1 := e1
      unfold dirC at e1
      obtain ⟨x, e3, e4⟩ := exb_ok e1
      obtain ⟨s', z2⟩ := x
      unfold dirE at e4
      by_cases w : pM (sPe (s', z2).2) = 0 ∧ (i = 0 ∨ 2 ≤ (s', z2).1)
      · rw [cif_t w] at e4; cases e4
        exact ext_tr (b := ((sIt z, sLb z), ch ++ sTk z, pe0)) ⟨⟨[], (List.append_nil _).symm⟩, ⟨ch, rfl⟩⟩ (dirL_ext _ _ _ _ _ e3)
      · rw [cif_f w] at e4; cases e4
/-- what a change below HERE leaves alone -/
abbrev kept (N : Nat) (D D' : Nat → Int32) (its : List It) (h : Nat) : Prop := (∀ j, j < h → j < its.length → isDr D its j → ∀ s, s < (chI N D its j).length * 16 * hc D → slq D' (plS D (chI N D its j) s) D (plS D (chI N D its j) s)) ∧ (∀ j, j < its.length → ((isDr D its j ∧ j < h) ∨ (¬ isDr D its j ∧ ipa (itr its j) < h)) → ∀ x ∈ chI N D its j, ent D' x = ent D x)
theorem scL_pre {N h : Nat} {D D' : Nat → Int32} {f' : List Nat} {z' : SS} (hn : numE N D D') (hk0 : kept N D D' (sIt z') h) (hh : h < (sIt z').length) : ∀ (d : Nat) (fks : List Nat) (z : SS), SI N D fks.length (sIt z) (sTk z) → 1 ≤ (sIt z).length → agI D D' (sIt z) → (ipa (itr (sIt z) 0) = 0) → scL N D d fks.length fks z = .ok (f', z') → fks.length ≤ h → h < fks.length + d → ∃ dh fh zh, fh.length = h ∧ scL N D' d fks.length fks z = scL N D' dh h fh zh ∧ ext zh z' ∧ agI D D' (sIt zh) ∧ h < (sIt zh).length := by
  intro d
  induction d with
  | zero => intro fks z a1 a2 a3 a4 a5 a6 a7; omega
  | succ d ih =>
    intro fks z a1 a2 a3 a4 a5 a6 a7
    have hx0 := scL_ext _ _ _ _ _ _ a5
    have hlt : fks.length < (sIt z).length := by
      refine Nat.lt_of_not_le fun w => ?_
      rw [scL, if_neg (by omega)] at a5
      cases a5
      omega
    by_cases w : h = fks.length
    · exact ⟨d + 1, fks, z, w.symm, by rw [w], hx0, a3, by omega⟩
    rw [scL, if_pos hlt] at a5
    obtain ⟨z1, e1, e2⟩ := exb_ok a5
    have hx := scL_ext _ _ _ _ _ _ e2
    have hl1 : (fks ++ [(sIt z).length]).length = fks.length + 1 := by rw [List.length_append]; rfl
    have hdr : isDr D' (sIt z) fks.length = isDr D (sIt z) fks.length := by
      unfold isDr
      by_cases q : fks.length = 0
      · exact propext ⟨fun _ => Or.inl q, fun _ => Or.inl q⟩
      · rw [(a3 fks.length (by omega) hlt) 11 (by decide)]
    have hpa : ipa (itr (sIt z) fks.length) < (sIt z).length := by
      by_cases q : fks.length = 0
      · rw [q, a4]; omega
      · have := (a1.2.1 fks.length (by omega) hlt).2.1
        omega
    have st : SI N D (fks.length + 1) (sIt z1) (sTk z1) ∧ ext z z1 ∧ cif (isDr D' (sIt z) fks.length) (dirS N D' fks.length z) (.ok z) = .ok z1 ∧ agI D D' (sIt z1) := by
      rw [hdr]
      by_cases q : isDr D (sIt z) fks.length
      rotate_left
      · rw [cif_f q] at e1 ⊢
        cases e1
        exact ⟨SI_skip a1 hlt q, ext_rf _, rfl, a3⟩
      rw [cif_t q] at e1 ⊢
      obtain ⟨s1, s2, s3⟩ := dirS_SI a1 a2 hlt q e1
      have hI : itr (sIt z') fks.length = itr (sIt z) fks.length := ext_itr hx0 hlt
      have hya : ∀ x ∈ sTk z1, ent D' x = ent D x := by
        intro x hx1
        obtain ⟨j, j1, j2, j3⟩ := (s1.2.2.2.2.1 x).mp hx1
        have hj := ext_itr hx j1
        have hjl : j < (sIt z').length := Nat.lt_of_lt_of_le j1 (ext_len hx)
        have hc1 : chI N D (sIt z') j = chI N D (sIt z1) j := by unfold chI begI; rw [hj]
        have hd1 : isDr D (sIt z') j ↔ isDr D (sIt z1) j := by unfold isDr; rw [hj]
        refine hk0.2 j hjl ?_ x (by rw [hc1]; exact j3)
        by_cases y : isDr D (sIt z1) j
        · refine Or.inl ⟨hd1.mpr y, ?_⟩
          rcases j2 with j2 | j2
          · exact absurd y j2
          · omega
        · refine Or.inr ⟨fun y' => y (hd1.mp y'), ?_⟩
          rw [hj]
          have := (s1.2.1 j (Nat.one_le_iff_ne_zero.mpr fun y' => y (Or.inl y')) j1).1
          omega
      have hsa : ∀ ch, fo N D (begI D (sIt z) fks.length) (sTk z) = some ch → ∀ s, s < ch.length * 16 * hc D → slq D' (plS D ch s) D (plS D ch s) := by
        intro ch hfo s hs
        have hc1 : chI N D (sIt z') fks.length = ch := by
          unfold chI begI
          rw [hI]
          exact (fo_cOf hfo).2
        have := hk0.1 fks.length (by omega) (by have := ext_len hx0; omega) (by unfold isDr; rw [hI]; exact q) s (by rw [hc1]; exact hs)
        rw [hc1] at this
        exact this
      obtain ⟨c1, c2⟩ := dirS_cong (D' := D') hn a3 hlt hpa hya hsa e1
      exact ⟨s1, s2, c1, c2⟩
    obtain ⟨s1, s2, s3, s4⟩ := st
    have hl2 := ext_len s2
    obtain ⟨dh, fh, zh, b1, b2, b3, b4, b5⟩ := ih (fks ++ [(sIt z).length]) z1 (by rw [hl1]; exact s1) (by omega) s4 (by rw [ext_itr s2 (by omega)]; exact a4) (by rw [hl1]; exact e2) (by rw [hl1]; omega) (by rw [hl1]; omega)
    refine ⟨dh, fh, zh, b1, ?_, b3, b4, b5⟩
    rw [scL, if_pos hlt, s3, exb_o, ← b2, hl1]
