/-! What holds of a sound tree: chains, places, order. -/
theorem fol_sub {N : Nat} {D : Nat → Int32} : ∀ (f x : Nat) (tk tk' ch : List Nat), (∀ y ∈ tk', y ∈ tk) → fol N D f x tk = some ch → fol N D f x tk' = some ch := by
  intro f
  induction f with
  | zero => intro x tk tk' ch _ h; cases h
  | succ f ih =>
    intro x tk tk' ch hs h
    rw [fol] at h ⊢
    by_cases g : isCl N D x ∧ x ∉ tk ∧ ent D x ≠ 0
    · rw [if_pos g] at h
      rw [if_pos ⟨g.1, fun w => g.2.1 (hs x w), g.2.2⟩]
      by_cases e : 268435448 ≤ ent D x
      · rw [if_pos e] at h ⊢; exact h
      · rw [if_neg e] at h ⊢
        cases hf : fol N D f (ent D x) (x :: tk) with
        | none => rw [hf] at h; cases h
        | some l =>
          rw [hf] at h
          rw [ih _ _ (x :: tk') l (fun y hy => by
            rcases List.mem_cons.mp hy with w | w
            · rw [w]; exact List.mem_cons_self
            · exact List.mem_cons_of_mem _ (hs y w)) hf]
          exact h
    · rw [if_neg g] at h; cases h
noncomputable def cOf (N : Nat) (D : Nat → Int32) (x : Nat) : List Nat := (fo N D x []).getD []
theorem fo_cOf {N x : Nat} {D : Nat → Int32} {tk ch : List Nat} (h : fo N D x tk = some ch) : fo N D x [] = some ch ∧ cOf N D x = ch := by
  have := fol_sub _ _ tk [] ch (fun y hy => by cases hy) h
  refine ⟨this, ?_⟩
  unfold cOf
  rw [show fo N D x [] = some ch from this]
  rfl
theorem cOf_0 {N x : Nat} {D : Nat → Int32} (h : ¬ isCl N D x) : cOf N D x = [] := by
  unfold cOf fo
  rw [fol, if_neg (fun w => h w.1)]
  rfl
theorem entF_sub {N p : Nat} {D : Nat → Int32} {tk ch : List Nat} (h : entF N D p tk = some ch) (hf : ¬ o1 D (p + 11) / 16 % 2 = 1) : entF N D p [] = some ch ∧ cOf N D (fc D p) = ch ∧ ∀ x ∈ ch, x ∉ tk := by
  unfold entF at h ⊢
  rw [if_neg hf] at h ⊢
  by_cases g : o4 D (p + 28) = 0
  · rw [if_pos g] at h ⊢
    by_cases e : fc D p = 0
    · rw [if_pos e] at h ⊢
      cases h
      exact ⟨rfl, by rw [e]; exact cOf_0 (fun w => by have := w.1; omega), fun x hx => by cases hx⟩
    · rw [if_neg e] at h; cases h
  · rw [if_neg g] at h ⊢
    by_cases e : o4 D (p + 28) < 2 ^ 31
    · rw [if_pos e] at h ⊢
      cases hfo : fo N D (fc D p) tk with
      | none => rw [hfo] at h; cases h
      | some c =>
        rw [hfo] at h
        obtain ⟨a, b⟩ := fo_cOf hfo
        have hx := fol_spec _ _ _ _ hfo
        rw [a]
        by_cases w : c.length = (o4 D (p + 28) + 512 * hc D - 1) / (512 * hc D)
        · have h : (if c.length = (o4 D (p + 28) + 512 * hc D - 1) / (512 * hc D) then some c else none) = some ch := h
          rw [if_pos w] at h
          cases h
          exact ⟨if_pos w, b, fun x hx' => (hx.2.2.2.2.1 x hx').2.1⟩
        · have h : (if c.length = (o4 D (p + 28) + 512 * hc D - 1) / (512 * hc D) then some c else none) = some ch := h
          rw [if_neg w] at h; cases h
    · rw [if_neg e] at h; cases h
noncomputable def chI (N : Nat) (D : Nat → Int32) (its : List It) (j : Nat) : List Nat := cOf N D (begI D its j)
abbrev elg (D : Nat → Int32) (its : List It) (n j : Nat) : Prop := ¬ isDr D its j ∨ j < n
/-- a slot that is a part -/
abbrev ptS (D : Nat → Int32) (q : Nat) : Prop := o1 D q ≠ 0 ∧ o1 D q ≠ 229 ∧ o1 D (q + 11) % 64 = 15
/-- a slot that is an item's entry -/
abbrev enS (D : Nat → Int32) (p : Nat) : Prop := o1 D (p + 11) ≤ 63 ∧ o1 D (p + 11) / 8 % 2 = 0 ∧ daysP D p ∧ shP D p ((0 : Nat) = 1) ∧ (o1 D (p + 11) / 16 % 2 = 1 → o4 D (p + 28) = 0) ∧ o1 D (p + 11) % 64 ≠ 15 ∧ o1 D p ≠ 0 ∧ o1 D p ≠ 229
abbrev itP (D : Nat → Int32) (ch : List Nat) (x : It) : Prop := isp x = plS D ch (isl x) ∧ isl x < ch.length * 16 * hc D ∧ ipt x ≤ isl x ∧ (ipa x ≠ 0 → 2 + ipt x ≤ isl x) ∧ (∀ r, 1 ≤ r → r ≤ ipt x → ptS D (plS D ch (isl x - r))) ∧ (∀ t, t ≤ isl x → o1 D (plS D ch t) ≠ 0)
abbrev chF (N : Nat) (D : Nat → Int32) (its : List It) (j : Nat) : Prop := (isDr D its j → fo N D (begI D its j) [] = some (chI N D its j)) ∧ (¬ isDr D its j → entF N D (isp (itr its j)) [] = some (chI N D its j))
abbrev SI (N : Nat) (D : Nat → Int32) (n : Nat) (its : List It) (tk : List Nat) : Prop := n ≤ its.length ∧ (∀ j, 1 ≤ j → j < its.length → ipa (itr its j) < n ∧ ipa (itr its j) < j ∧ isDr D its (ipa (itr its j)) ∧ enS D (isp (itr its j)) ∧ itP D (chI N D its (ipa (itr its j))) (itr its j)) ∧ (∀ j, j < its.length → elg D its n j → chF N D its j) ∧ (∀ j j', j < its.length → j' < its.length → elg D its n j → elg D its n j' → j ≠ j' → ∀ x ∈ chI N D its j, x ∉ chI N D its j') ∧ (∀ x, x ∈ tk ↔ ∃ j, j < its.length ∧ elg D its n j ∧ x ∈ chI N D its j) ∧ (∀ j j', 1 ≤ j → j < j' → j' < its.length → ipa (itr its j) ≤ ipa (itr its j') ∧ (ipa (itr its j) = ipa (itr its j') → isl (itr its j) + ipt (itr its j') < isl (itr its j') ∧ ¬ alk (inm (itr its j)) (inm (itr its j')) ∧ ¬ ssP D (isp (itr its j)) (isp (itr its j'))))
abbrev SX (N : Nat) (D : Nat → Int32) (i fk s : Nat) (ch : List Nat) (its : List It) (pe : Pend) : Prop := chI N D its i = ch ∧ (∀ j, 1 ≤ j → j < its.length → (ipa (itr its j) = i ↔ fk ≤ j)) ∧ (∀ j, 1 ≤ j → j < its.length → ipa (itr its j) = i → isl (itr its j) + pM pe < s) ∧ pM pe ≤ s ∧ (pM pe = 0 ∨ i = 0 ∨ 2 + pM pe ≤ s) ∧ (∀ r, 1 ≤ r → r ≤ pM pe → ptS D (plS D ch (s - r))) ∧ (∀ t, t < s → o1 D (plS D ch t) ≠ 0)
theorem itr_ap {its : List It} {l : List It} {j : Nat} (h : j < its.length) : itr (its ++ l) j = itr its j := by
  unfold itr
  rw [List.getD_eq_getElem?_getD, List.getD_eq_getElem?_getD, List.getElem?_append_left h]
theorem isDr_ap {D : Nat → Int32} {its l : List It} {j : Nat} (h : j < its.length) : isDr D (its ++ l) j ↔ isDr D its j := by
  unfold isDr; rw [itr_ap h]
theorem begI_ap {D : Nat → Int32} {its l : List It} {j : Nat} (h : j < its.length) : begI D (its ++ l) j = begI D its j := by
  unfold begI; rw [itr_ap h]
theorem chI_ap {N : Nat} {D : Nat → Int32} {its l : List It} {j : Nat} (h : j < its.length) : chI N D (its ++ l) j = chI N D its j := by
  unfold chI; rw [begI_ap h]
theorem begI_new {D : Nat → Int32} {its : List It} {x : It} (h : 1 ≤ its.length) : begI D (its ++ [x]) its.length = fc D (isp x) := by
  unfold begI; rw [if_neg (by omega), itr_last]
/-- an item more -/
theorem SI_add {N i s p m fk : Nat} {D : Nat → Int32} {its : List It} {tk ch c : List Nat} {nm : List Nat} {pe : Pend} (h : SI N D (i + 1) its tk) (hx : SX N D i fk s ch its pe) (h1 : 1 ≤ its.length) (hi : i < its.length) (hd : isDr D its i) (hm : m = pM pe) (hp : p = plS D ch s) (hs : s < ch.length * 16 * hc D) (he : enS D p) (hnz : o1 D p ≠ 0) (h2 : ¬ (1 ≤ i ∧ s < 2)) (hE : entF N D p tk = some c) (hfk : fk ≤ its.length) (htw : ¬ enTw D its fk p nm) : SI N D (i + 1) (its ++ [((i, p), (s, m), nm)]) (c ++ tk) ∧ SX N D i fk (s + 1) ch (its ++ [((i, p), (s, m), nm)]) pe0 := by
  obtain ⟨a0, a1, a2, a3, a4, a5⟩ := h
  obtain ⟨b1, b2, b3, b4, b5, b6, b7⟩ := hx
  have hl : (its ++ [((i, p), (s, m), nm)]).length = its.length + 1 := by rw [List.length_append]; rfl
  have hne : ∀ j, j < its.length + 1 → j ≠ its.length → j < its.length := fun j a b => by omega
  have hLi : isDr D (its ++ [((i, p), (s, m), nm)]) its.length ↔ o1 D (p + 11) / 16 % 2 = 1 := by
    unfold isDr
    rw [itr_last]
    exact ⟨fun w => w.resolve_left (by omega), fun w => Or.inr w⟩
  have hLc : chI N D (its ++ [((i, p), (s, m), nm)]) its.length = cOf N D (fc D p) := by
    unfold chI
    rw [begI_new h1]
  have hel : ∀ j, j < its.length → (elg D (its ++ [((i, p), (s, m), nm)]) (i + 1) j ↔ elg D its (i + 1) j) := fun j hj => by
    unfold elg
    rw [isDr_ap hj]
  have hfile : elg D (its ++ [((i, p), (s, m), nm)]) (i + 1) its.length → ¬ o1 D (p + 11) / 16 % 2 = 1 := fun w => by
    rcases w with w | w
    · exact fun y => w (hLi.mpr y)
    · omega
  have hsub := fun w => entF_sub hE w
  constructor
  · refine ⟨by rw [hl]; omega, fun j g1 g2 => ?_, fun j g1 g2 => ?_, fun j j' g1 g2 g3 g4 g5 x gx => ?_, fun x => ?_, fun j j' g1 g2 g3 => ?_⟩
    · rw [hl] at g2
      by_cases e : j = its.length
      · subst e
        rw [itr_last]
        refine ⟨Nat.lt_succ_self i, hi, (isDr_ap hi).mpr hd, he, ?_⟩
        show itP D (chI N D (its ++ [((i, p), (s, m), nm)]) i) ((i, p), (s, m), nm)
        rw [chI_ap hi, b1]
        refine ⟨hp, hs, by rw [hm]; exact b4, fun hi0 => ?_, fun r r1 r2 => ?_, fun t ht => ?_⟩
        · show 2 + m ≤ s
          have hi0 : i ≠ 0 := hi0
          rw [hm]
          rcases b5 with w | w | w
          · rw [w]; omega
          · exact absurd w hi0
          · exact w
        · exact b6 r r1 (by rw [← hm]; exact r2)
        · have ht : t ≤ s := ht
          by_cases w : t = s
          · rw [w, ← hp]; exact hnz
          · exact b7 t (by omega)
      · have hj := hne j g2 e
        obtain ⟨c1, c2, c3, c4, c5⟩ := a1 j g1 hj
        rw [itr_ap hj]
        refine ⟨c1, c2, (isDr_ap (by omega)).mpr c3, c4, ?_⟩
        rw [chI_ap (by omega)]
        exact c5
    · rw [hl] at g1
      by_cases e : j = its.length
      · subst e
        have hf := hfile g2
        obtain ⟨s1, s2, s3⟩ := hsub hf
        refine ⟨fun w => absurd (hLi.mp w) hf, fun _ => ?_⟩
        rw [hLc, itr_last, s2]
        exact s1
      · have hj := hne j g1 e
        have := a2 j hj ((hel j hj).mp g2)
        unfold chF
        rw [isDr_ap hj, begI_ap hj, chI_ap hj, itr_ap hj]
        exact this
    · rw [hl] at g1 g2
      by_cases e : j = its.length
      · subst e
        have hf := hfile g3
        obtain ⟨s1, s2, s3⟩ := hsub hf
        have hj' := hne j' g2 (fun w => g5 w.symm)
        rw [hLc, s2] at gx
        rw [chI_ap hj']
        exact fun w => s3 x gx ((a4 x).mpr ⟨j', hj', (hel j' hj').mp g4, w⟩)
      · have hj := hne j g1 e
        rw [chI_ap hj] at gx
        by_cases e' : j' = its.length
        · subst e'
          have hf := hfile g4
          obtain ⟨s1, s2, s3⟩ := hsub hf
          rw [hLc, s2]
          exact fun w => s3 x w ((a4 x).mpr ⟨j, hj, (hel j hj).mp g3, gx⟩)
        · have hj' := hne j' g2 e'
          rw [chI_ap hj']
          exact a3 j j' hj hj' ((hel j hj).mp g3) ((hel j' hj').mp g4) g5 x gx
    · rw [hl, List.mem_append]
      constructor
      · rintro (w | w)
        · by_cases hf : o1 D (p + 11) / 16 % 2 = 1
          · have : c = [] := by
              unfold entF at hE
              rw [if_pos hf] at hE
              cases hE; rfl
            rw [this] at w; cases w
          · obtain ⟨s1, s2, s3⟩ := hsub hf
            exact ⟨its.length, by omega, Or.inl (fun y => hf (hLi.mp y)), by rw [hLc, s2]; exact w⟩
        · obtain ⟨j, j1, j2, j3⟩ := (a4 x).mp w
          exact ⟨j, by omega, (hel j j1).mpr j2, by rw [chI_ap j1]; exact j3⟩
      · rintro ⟨j, j1, j2, j3⟩
        by_cases e : j = its.length
        · subst e
          have hf := hfile j2
          obtain ⟨s1, s2, s3⟩ := hsub hf
          rw [hLc, s2] at j3
          exact Or.inl j3
        · have hj := hne j j1 e
          rw [chI_ap hj] at j3
          exact Or.inr ((a4 x).mpr ⟨j, hj, (hel j hj).mp j2, j3⟩)
    · rw [hl] at g3
      have hj : j < its.length := by omega
      rw [itr_ap hj]
      by_cases e : j' = its.length
      · subst e
        rw [itr_last]
        refine ⟨?_, fun w => ⟨?_, fun y => ?_, fun y => ?_⟩⟩
        · show ipa (itr its j) ≤ i
          have := (a1 j g1 hj).1
          omega
        · show isl (itr its j) + m < s
          rw [hm]; exact b3 j g1 hj w
        · exact htw ⟨j, (b2 j g1 hj).mp w, hj, Or.inl y⟩
        · exact htw ⟨j, (b2 j g1 hj).mp w, hj, Or.inr y⟩
      · have hj' := hne j' g3 e
        rw [itr_ap hj']
        exact a5 j j' g1 g2 hj'
  · refine ⟨by rw [chI_ap hi]; exact b1, fun j g1 g2 => ?_, fun j g1 g2 g3 => ?_, Nat.zero_le _, Or.inl rfl, fun r r1 r2 => ?_, fun t ht => ?_⟩
    · rw [hl] at g2
      by_cases e : j = its.length
      · subst e
        rw [itr_last]
        exact ⟨fun _ => hfk, fun _ => rfl⟩
      · have hj := hne j g2 e
        rw [itr_ap hj]
        exact b2 j g1 hj
    · rw [hl] at g2
      by_cases e : j = its.length
      · subst e
        rw [itr_last]
        exact Nat.lt_succ_self s
      · have hj := hne j g2 e
        rw [itr_ap hj] at g3 ⊢
        have := b3 j g1 hj g3
        show isl (itr its j) + 0 < s + 1
        omega
    · have r2 : r ≤ 0 := r2
      omega
    · by_cases w : t = s
      · rw [w, ← hp]; exact hnz
      · exact b7 t (by omega)
/-- a slot that makes no item -/
theorem SX_step {N i s fk : Nat} {D : Nat → Int32} {its : List It} {ch : List Nat} {pe pe' : Pend} (hx : SX N D i fk s ch its pe) (hnz : o1 D (plS D ch s) ≠ 0) (h : pe' = pe ∧ pM pe = 0 ∨ (pM pe' = pM pe + 1 ∧ ptS D (plS D ch s) ∧ ¬ (1 ≤ i ∧ s < 2))) : SX N D i fk (s + 1) ch its pe' := by
  obtain ⟨b1, b2, b3, b4, b5, b6, b7⟩ := hx
  have hz7 : ∀ t, t < s + 1 → o1 D (plS D ch t) ≠ 0 := fun t ht => by
    by_cases w : t = s
    · rw [w]; exact hnz
    · exact b7 t (by omega)
  rcases h with ⟨rfl, h0⟩ | ⟨h1, h2, h3⟩
  · exact ⟨b1, b2, fun j g1 g2 g3 => by have := b3 j g1 g2 g3; omega, by omega, Or.inl h0, fun r r1 r2 => by omega, hz7⟩
  · refine ⟨b1, b2, fun j g1 g2 g3 => by have := b3 j g1 g2 g3; omega, by omega, ?_, fun r r1 r2 => ?_, hz7⟩
    · rcases b5 with w | w | w
      · by_cases e : i = 0
        · exact Or.inr (Or.inl e)
        · right; right; omega
      · exact Or.inr (Or.inl w)
      · right; right; omega
    · by_cases e : r = 1
      · rw [e, Nat.add_sub_cancel]; exact h2
      · have := b6 (r - 1) (by omega) (by omega)
        rw [show s + 1 - r = s - (r - 1) by omega]
        exact this
theorem SX_same {N i s fk : Nat} {D : Nat → Int32} {its : List It} {ch : List Nat} {pe : Pend} (hx : SX N D i fk s ch its pe) (hnz : o1 D (plS D ch s) ≠ 0) (h : pM pe = 0 ∨ 1 ≤ i ∧ s < 2) : SX N D i fk (s + 1) ch its pe := by
  refine SX_step hx hnz (Or.inl ⟨rfl, ?_⟩)
  rcases h with w | w
  · exact w
  · have := hx.2.2.2.2.1
    omega
