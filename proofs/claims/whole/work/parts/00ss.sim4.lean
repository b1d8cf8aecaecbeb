/-! make: HERE read again up to the new entry. -/
theorem slS_tk {N i fk s q : Nat} {Xs tk' : List Nat} {D D' : Nat → Int32} {z z1 : SS} (hn : numE N D D') (hp : slq D' q D q) (hI : agI D D' (sIt z)) (hi : i < (sIt z).length) (hpa : ipa (itr (sIt z) i) < (sIt z).length) (hfk : 1 ≤ fk) (hy : ∀ y ∈ sTk z1, y ∉ sTk z → ent D' y = ent D y ∧ y ∉ Xs) (ht : ∀ y, y ∈ tk' ↔ y ∈ sTk z ∨ y ∈ Xs) (e : slS N D i fk s q z = .ok z1) : ∃ tk1, slS N D' i fk s q ((sIt z, sLb z), tk', sPe z) = .ok ((sIt z1, sLb z1), tk1, sPe z1) ∧ ∀ y, y ∈ tk1 ↔ y ∈ sTk z1 ∨ y ∈ Xs := by
  have hb : ∀ j, j < (sIt z).length → begI D' (sIt z) j = begI D (sIt z) j := fun j hj => by
    unfold begI
    by_cases w : j = 0
    · rw [if_pos w, if_pos w, hn.2.2.1]
    · rw [if_neg w, if_neg w, slq_fc (hI j (Nat.one_le_iff_ne_zero.mpr w) hj)]
  have e1 : dtP D' (sIt z) q i s ↔ dtP D (sIt z) q i s := by
    unfold dtP
    rw [hp 11 (by decide), slq_fc hp, hb i hi, hb _ hpa]
    have x1 : (∀ r, r < 11 → o1 D' (q + r) = (if r ≤ s then 46 else 32)) ↔ (∀ r, r < 11 → o1 D (q + r) = (if r ≤ s then 46 else 32)) := ⟨fun w r hr => by rw [← hp r (Nat.lt_trans hr (by decide))]; exact w r hr, fun w r hr => by rw [hp r (Nat.lt_trans hr (by decide))]; exact w r hr⟩
    rw [x1]
  have e2 : ptN D' q (sPe z) = ptN D q (sPe z) := by unfold ptN; rw [slq_0 hp, hp 13 (by decide), slq_ch hp]
  unfold slS at e ⊢
  show ∃ tk1, cif (1 ≤ i ∧ s < 2) (cif (dtP D' (sIt z) q i s) (.ok ((sIt z, sLb z), tk', sPe z)) (.error 4)) (cif (o1 D' q = 229) (cif (pM (sPe z) = 0) (.ok ((sIt z, sLb z), tk', sPe z)) (.error 4)) (cif (o1 D' (q + 11) % 64 = 15) (cif (ptP D' q (sPe z)) (.ok ((sIt z, sLb z), tk', ptN D' q (sPe z))) (.error 4)) (entS N D' i s q fk ((sIt z, sLb z), tk', sPe z)))) = .ok ((sIt z1, sLb z1), tk1, sPe z1) ∧ ∀ y, y ∈ tk1 ↔ y ∈ sTk z1 ∨ y ∈ Xs
  by_cases g1 : 1 ≤ i ∧ s < 2
  · rw [cif_t g1] at e ⊢
    by_cases g2 : dtP D (sIt z) q i s
    · rw [cif_t g2] at e
      rw [cif_t (e1.mpr g2)]
      cases e
      exact ⟨tk', rfl, ht⟩
    · rw [cif_f g2] at e; cases e
  rw [cif_f g1] at e ⊢
  rw [slq_0 hp]
  by_cases g3 : o1 D q = 229
  · rw [cif_t g3] at e ⊢
    by_cases g4 : pM (sPe z) = 0
    · rw [cif_t g4] at e ⊢
      cases e
      exact ⟨tk', rfl, ht⟩
    · rw [cif_f g4] at e; cases e
  rw [cif_f g3] at e ⊢
  rw [hp 11 (by decide)]
  by_cases g5 : o1 D (q + 11) % 64 = 15
  · rw [cif_t g5] at e ⊢
    rw [e2, propext (slq_pt hp)]
    by_cases g6 : ptP D q (sPe z)
    · rw [cif_t g6] at e ⊢
      cases e
      exact ⟨tk', rfl, ht⟩
    · rw [cif_f g6] at e; cases e
  rw [cif_f g5] at e ⊢
  have en : nmN D' q (sPe z) = nmN D q (sPe z) := by unfold nmN; rw [slq_sv hp 11 (by decide)]
  unfold entS at e ⊢
  show ∃ tk1, cif (o1 D' (q + 11) ≤ 63 ∧ daysP D' q) (cif (o1 D' (q + 11) / 8 % 2 = 1) (cif (enLb D' i q ((sIt z, sLb z), tk', sPe z)) (.ok ((sIt z, some q), tk', sPe z)) (.error 4)) (cif (enBad D' q (sPe z)) (cif (enTw D' (sIt z) fk q (nmN D' q (sPe z))) (.error 5) (entR N D' i s q ((sIt z, sLb z), tk', sPe z))) (.error 4))) (.error 4) = .ok ((sIt z1, sLb z1), tk1, sPe z1) ∧ ∀ y, y ∈ tk1 ↔ y ∈ sTk z1 ∨ y ∈ Xs
  rw [en]
  have f1 : (o1 D' (q + 11) ≤ 63 ∧ daysP D' q) ↔ (o1 D (q + 11) ≤ 63 ∧ daysP D q) := by rw [hp 11 (by decide), slq_days hp]
  by_cases g7 : o1 D (q + 11) ≤ 63 ∧ daysP D q
  rotate_left
  · rw [cif_f g7] at e; cases e
  rw [cif_t g7] at e
  rw [cif_t (f1.mpr g7), hp 11 (by decide)]
  by_cases g8 : o1 D (q + 11) / 8 % 2 = 1
  · rw [cif_t g8] at e ⊢
    have f2 : enLb D' i q ((sIt z, sLb z), tk', sPe z) ↔ enLb D i q z := by
      unfold enLb
      rw [hp 11 (by decide), slq_fc hp, slq_4 hp (by decide), slq_sh hp]
    by_cases g9 : enLb D i q z
    · rw [cif_t g9] at e
      rw [cif_t (f2.mpr g9)]
      cases e
      exact ⟨tk', rfl, ht⟩
    · rw [cif_f g9] at e; cases e
  rw [cif_f g8] at e ⊢
  have f3 : enBad D' q (sPe z) ↔ enBad D q (sPe z) := by
    unfold enBad
    rw [hp 11 (by decide), slq_4 hp (by decide), slq_sm hp 11 (by decide), slq_sh hp]
  by_cases g10 : enBad D q (sPe z)
  rotate_left
  · rw [cif_f g10] at e; cases e
  rw [cif_t g10] at e
  rw [cif_t (f3.mpr g10)]
  by_cases g11 : enTw D (sIt z) fk q (nmN D q (sPe z))
  · rw [cif_t g11] at e; cases e
  rw [cif_f g11] at e
  cases hE : entF N D q (sTk z) with
  | none => rw [entR_n hE] at e; cases e
  | some c =>
    rw [entR_s hE] at e
    cases e
    have f4 : ¬ enTw D' (sIt z) fk q (nmN D q (sPe z)) := by
      rintro ⟨j, b1, b2, b3⟩
      refine g11 ⟨j, b1, b2, b3.imp id fun w r hr => ?_⟩
      have := w r hr
      rw [hI j (Nat.le_trans hfk b1) b2 r (Nat.lt_trans hr (by decide)), hp r (Nat.lt_trans hr (by decide))] at this
      exact this
    rw [cif_f f4]
    have hE' : entF N D' q tk' = some c := by
      have hcz : ∀ y ∈ c, ent D' y = ent D y ∧ y ∉ Xs := fun y w => hy y (List.mem_append_left _ w) (entF_nt hE y w)
      exact entF_sim hn hp hE (fun y w => (hcz y w).1) (fun y w t t' => by
        rcases (ht y).mp t' with u | u
        · exact t u
        · exact (hcz y w).2 u)
    refine ⟨c ++ tk', ?_, fun y => ?_⟩
    · rw [entR_s (z := ((sIt z, sLb z), tk', sPe z)) hE']
      show Except.ok ((sIt z ++ [((i, q), (s, pM (sPe z)), nmN D' q (sPe z))], sLb z), c ++ tk', pe0) = _
      rw [en]
    · show y ∈ c ++ tk' ↔ y ∈ c ++ sTk z ∨ y ∈ Xs
      rw [List.mem_append, List.mem_append, ht y, or_assoc]
theorem slS_new {N i fk s q : Nat} {D : Nat → Int32} {z z1 : SS} (e : slS N D i fk s q z = .ok z1) : (sIt z1 = sIt z ∨ ∃ it, isl it = s ∧ sIt z1 = sIt z ++ [it]) ∧ ((pM (sPe z) = 0 → sPe z = pe0) → pM (sPe z1) = 0 → sPe z1 = pe0) := by
  unfold slS at e
  by_cases g1 : 1 ≤ i ∧ s < 2
  · rw [cif_t g1] at e
    by_cases g2 : dtP D (sIt z) q i s
    · rw [cif_t g2] at e; cases e; exact ⟨Or.inl rfl, id⟩
    · rw [cif_f g2] at e; cases e
  rw [cif_f g1] at e
  by_cases g3 : o1 D q = 229
  · rw [cif_t g3] at e
    by_cases g4 : pM (sPe z) = 0
    · rw [cif_t g4] at e; cases e; exact ⟨Or.inl rfl, id⟩
    · rw [cif_f g4] at e; cases e
  rw [cif_f g3] at e
  by_cases g5 : o1 D (q + 11) % 64 = 15
  · rw [cif_t g5] at e
    by_cases g6 : ptP D q (sPe z)
    · rw [cif_t g6] at e
      cases e
      refine ⟨Or.inl rfl, fun _ w => ?_⟩
      have w : pM (sPe z) + 1 = 0 := w
      exact absurd w (Nat.succ_ne_zero _)
    · rw [cif_f g6] at e; cases e
  rw [cif_f g5] at e
  unfold entS at e
  by_cases g7 : o1 D (q + 11) ≤ 63 ∧ daysP D q
  rotate_left
  · rw [cif_f g7] at e; cases e
  rw [cif_t g7] at e
  by_cases g8 : o1 D (q + 11) / 8 % 2 = 1
  · rw [cif_t g8] at e
    by_cases g9 : enLb D i q z
    · rw [cif_t g9] at e; cases e; exact ⟨Or.inl rfl, id⟩
    · rw [cif_f g9] at e; cases e
  rw [cif_f g8] at e
  by_cases g10 : enBad D q (sPe z)
  rotate_left
  · rw [cif_f g10] at e; cases e
  rw [cif_t g10] at e
  by_cases g11 : enTw D (sIt z) fk q (nmN D q (sPe z))
  · rw [cif_t g11] at e; cases e
  rw [cif_f g11] at e
  cases hE : entF N D q (sTk z) with
  | none => rw [entR_n hE] at e; cases e
  | some c =>
    rw [entR_s hE] at e
    cases e
    exact ⟨Or.inr ⟨_, rfl, rfl⟩, fun _ _ => rfl⟩
theorem dirL_new {N i fk : Nat} {D : Nat → Int32} {ch : List Nat} : ∀ (d s : Nat) (y : SS) (s' : Nat) (y1 : SS), dirL N D i fk ch d s y = .ok (s', y1) → ∀ j, (sIt y).length ≤ j → j < (sIt y1).length → s ≤ isl (itr (sIt y1) j) := by
  intro d
  induction d with
  | zero => intro s y s' y1 q j h1 h2; rw [dirL] at q; cases q; exact absurd h2 (Nat.not_lt_of_le h1)
  | succ d ih =>
    intro s y s' y1 q j h1 h2
    rw [dirL] at q
    by_cases g : o1 D (plS D ch s) = 0
    · rw [cif_t g] at q; cases q; exact absurd h2 (Nat.not_lt_of_le h1)
    · rw [cif_f g] at q
      obtain ⟨y2, q1, q2⟩ := exb_ok q
      have x2 := dirL_ext _ _ _ _ _ q2
      by_cases c : (sIt y2).length ≤ j
      · exact Nat.le_trans (Nat.le_succ s) (ih _ _ _ _ q2 j c h2)
      · rw [ext_itr x2 (Nat.lt_of_not_le c)]
        rcases (slS_new q1).1 with w | ⟨it, w1, w2⟩
        · rw [w] at c; exact absurd h1 c
        · have hl : (sIt y2).length = (sIt y).length + 1 := by rw [w2]; exact List.length_append
          have ej : j = (sIt y).length := Nat.le_antisymm (Nat.le_of_lt_succ (by show j < (sIt y).length + 1; rw [← hl]; exact Nat.lt_of_not_le c)) h1
          rw [ej, w2, itr_last, w1]
          exact Nat.le_refl _
theorem dirL_to {N i fk b : Nat} {Xs ch ch' : List Nat} {D D' : Nat → Int32} (hn : numE N D D') (hfk : 1 ≤ fk) (hsl : ∀ s, s < b → slq D' (plS D ch s) D (plS D ch s)) (hch : ∀ s, s < b → plS D ch' s = plS D ch s) (hnz : ∀ s, s < b → o1 D (plS D ch s) ≠ 0) : ∀ (m s : Nat) (y : SS) (s' : Nat) (y1 : SS) (d d' : Nat) (tk' : List Nat), s + m = b → agI D D' (sIt y) → i < (sIt y).length → ipa (itr (sIt y) i) < (sIt y).length → (∀ x ∈ sTk y1, x ∉ sTk y → ent D' x = ent D x ∧ x ∉ Xs) → (∀ x, x ∈ tk' ↔ x ∈ sTk y ∨ x ∈ Xs) → (pM (sPe y) = 0 → sPe y = pe0) → dirL N D i fk ch (d + m) s y = .ok (s', y1) → ∃ yb tkb, dirL N D i fk ch d b yb = .ok (s', y1) ∧ dirL N D' i fk ch' (d' + m) s ((sIt y, sLb y), tk', sPe y) = dirL N D' i fk ch' d' b ((sIt yb, sLb yb), tkb, sPe yb) ∧ (∀ x, x ∈ tkb ↔ x ∈ sTk yb ∨ x ∈ Xs) ∧ ext y yb ∧ agI D D' (sIt yb) ∧ (pM (sPe yb) = 0 → sPe yb = pe0) ∧ ∀ j, (sIt y).length ≤ j → j < (sIt yb).length → isl (itr (sIt yb) j) < b := by
  intro m
  induction m with
  | zero =>
    intro s y s' y1 d d' tk' h1 h3 h4 h5 h8 h9 hpe q
    obtain rfl : s = b := h1
    exact ⟨y, tk', q, rfl, h9, ext_rf _, h3, hpe, fun j a c => absurd c (Nat.not_lt_of_le a)⟩
  | succ m ih =>
    intro s y s' y1 d d' tk' h1 h3 h4 h5 h8 h9 hpe q
    have hs : s < b := by rw [← h1]; exact Nat.lt_add_of_pos_right (Nat.succ_pos m)
    have hp := hsl s hs
    rw [← Nat.add_assoc] at q ⊢
    rw [dirL, cif_f (hnz s hs)] at q
    obtain ⟨y2, q1, q2⟩ := exb_ok q
    have x1 := slS_ext q1
    have x2 := dirL_ext _ _ _ _ _ q2
    have hl := ext_len x1
    obtain ⟨tk1, e1, e2⟩ := slS_tk (Xs := Xs) (tk' := tk') hn hp h3 h4 h5 hfk (fun x w1 w2 => h8 x (ext_tk x2 w1) w2) h9 q1
    obtain ⟨yb, tkb, c1, c2, c3, c4, c5, c6, c7⟩ := ih (s + 1) y2 s' y1 d d' tk1 (by rw [← h1]; exact Nat.succ_add_eq_add_succ s m) (by
      rcases (slS_at q1).1 with w | ⟨it, w1, w2⟩
      · rw [w]; exact h3
      · rw [w2]
        exact agI_add h3 (Nat.lt_of_le_of_lt (Nat.zero_le _) h4) (by rw [w1]; exact hp)) (Nat.lt_of_lt_of_le h4 hl) (by rw [ext_itr x1 h4]; exact Nat.lt_of_lt_of_le h5 hl) (fun x w1 w2 => h8 x w1 (fun t => w2 (ext_tk x1 t))) e2 ((slS_new q1).2 hpe) q2
    refine ⟨yb, tkb, c1, ?_, c3, ext_tr x1 c4, c5, c6, fun j a c => ?_⟩
    rotate_left
    · by_cases w : (sIt y2).length ≤ j
      · exact c7 j w c
      · rw [ext_itr c4 (Nat.lt_of_not_le w)]
        rcases (slS_new q1).1 with t | ⟨it, w1, w2⟩
        · rw [t] at w; exact absurd a w
        · have hl : (sIt y2).length = (sIt y).length + 1 := by rw [w2]; exact List.length_append
          have ej : j = (sIt y).length := Nat.le_antisymm (Nat.le_of_lt_succ (by show j < (sIt y).length + 1; rw [← hl]; exact Nat.lt_of_not_le w)) a
          rw [ej, w2, itr_last, w1]
          exact hs
    rw [dirL, plS_num hn, hch s hs, slq_0 hp, cif_f (hnz s hs), e1, exb_o]
    exact c2
