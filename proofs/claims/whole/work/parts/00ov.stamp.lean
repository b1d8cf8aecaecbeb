/-! Stamping an item. -/
theorem want_no {K N : Nat} {D : Nat → Int32} {G : CG} {S : CS} (h : S.v_Vt_lastFault = nI (flt N D)) (hf : flt N D ≠ 0) : f_Vt_wantSoundTable K G S (nI (if flt N D = 1 then 0 else 1)) = some (.error 1, G.made 1 6, S) := by
  have := flt_le N D
  unfold f_Vt_wantSoundTable f_Vt_wantSoundTable_12
  rw [h, if_neg (nI_ne0 (by omega) (by omega))]
  split <;> rfl
theorem want_ok {K N : Nat} {D : Nat → Int32} {G : CG} {S : CS} (h : S.v_Vt_lastFault = nI (flt N D)) (hf : flt N D = 0) : f_Vt_wantSoundTable K G S (nI (if flt N D = 1 then 0 else 1)) = some (.ok (), G, S) := by
  unfold f_Vt_wantSoundTable
  rw [h, hf, if_pos (show nI (if 0 = 1 then 0 else 1) = 1 from rfl), if_pos (show nI 0 = 0 from rfl)]
theorem qM_fixed {K N : Nat} {D : Nat → Int32} {T T' : MS} (hl : f_Mo_look K (T.u_v_thrown 0) = some T') (h1 : T'.v_thrown = 0) (h2 : T'.v_turned = 0) (h3 : T'.v_fault = nI (flt N D)) : f_Mo_fixedNow K T = some (b01 (flt N D ≠ 0), cif (flt N D ≠ 0) (T'.u_v_thrown 1) T') := by
  have hb := flt_le N D
  unfold f_Mo_fixedNow f_Mo_fixedNow_24 f_Mo_fixedNow_29
  rw [q_l, hl, q_b, if_pos h2, h3]
  have key := qM_fails (K := K) T' (flt N D ≠ 0) 1 h1 (by decide)
  by_cases w : flt N D = 0
  · rw [w, if_pos (show nI 0 ≤ 0 by decide)]
    rw [b01_f (fun y => y w), cif_f (fun y => y w)] at key
    rw [b01_f (fun y => y rfl), cif_f (fun y => y rfl)]
    rw [show (0 : Int32) = nI 0 from rfl, key, q_c, q_g (Or.inl rfl)]
  · rw [if_neg (show ¬ nI (flt N D) ≤ 0 from nI_nle (by omega) (by omega))]
    rw [b01_t w, cif_t w] at key
    rw [b01_t w, cif_t w]
    rw [show (1 : Int32) = nI 1 from rfl] at key ⊢
    rw [key, q_c, q_g (Or.inr rfl)]
theorem dayP_n {c : Int32} (h : dayP c) : ∃ x, x < 65536 ∧ c = nI x := by
  by_cases w : c < 0
  · unfold dayP f_Mo_isDay f_Mo_isDay_59 at h
    rw [q_l, if_pos w] at h; cases h
  obtain ⟨x, x1, rfl⟩ := nI_of w
  refine ⟨x, Nat.lt_of_not_le fun y => ?_, rfl⟩
  unfold dayP f_Mo_isDay f_Mo_isDay_59 at h
  rw [q_l, if_neg w, if_pos (show 65536 ≤ nI x from nI_le (a := 65536) y x1)] at h; cases h
theorem timP_n {c : Int32} (h : timP c) : ∃ x, x < 65536 ∧ c = nI x := by
  by_cases w : c < 0
  · unfold timP f_Mo_isTime f_Mo_isTime_37 at h
    rw [if_pos w] at h; cases h
  obtain ⟨x, x1, rfl⟩ := nI_of w
  refine ⟨x, Nat.lt_of_not_le fun y => ?_, rfl⟩
  have e : nI x >>> ((11 : Int32) &&& 31) = nI (x / 2 ^ 11) := q_shr (k := 11) x1 (by decide)
  unfold timP f_Mo_isTime f_Mo_isTime_37 at h
  rw [if_neg w, e, if_pos (show 24 ≤ nI (x / 2 ^ 11) from nI_le (a := 24) (by omega) (by omega))] at h; cases h
theorem madP_n {a b c : Int32} (h : madP a b c) : (∃ x, x < 65536 ∧ a = nI x) ∧ (∃ x, x < 65536 ∧ b = nI x) ∧ ∃ x, x < 65536 ∧ c = nI x := by
  unfold madP f_Mo_isMade f_Mo_isMade_16 f_Mo_isMade_49 at h
  by_cases w : a = 0
  · rw [if_pos w] at h
    by_cases w2 : b = 0
    · rw [if_pos w2] at h
      by_cases w3 : c = 0
      · exact ⟨⟨0, by decide, w⟩, ⟨0, by decide, w2⟩, ⟨0, by decide, w3⟩⟩
      · rw [if_neg w3] at h; cases h
    · rw [if_neg w2] at h; cases h
  rw [if_neg w] at h
  rcases qM_day01 0 a with q | q
  · rw [q, q_b, if_pos (show nI 0 = 0 from rfl)] at h; cases h
  rw [q, q_b, if_neg (show ¬ nI 1 = 0 by decide)] at h
  rcases qM_time01 0 b with q2 | q2
  · rw [q2, q_b, if_pos (show nI 0 = 0 from rfl)] at h; cases h
  rw [q2, q_b, if_neg (show ¬ nI 1 = 0 by decide)] at h
  by_cases w2 : c < 0
  · rw [if_pos w2] at h; cases h
  rw [if_neg w2] at h
  obtain ⟨x, x1, rfl⟩ := nI_of w2
  by_cases w3 : 200 ≤ nI x
  · rw [if_pos w3] at h; cases h
  exact ⟨dayP_n q, timP_n q2, x, Nat.lt_of_not_le fun y => w3 (nI_le (a := 200) (by omega) x1), rfl⟩
def fitP (D : Nat → Int32) (p : Nat) (b c d : Int32) : Prop := (b = 0 ∧ madP c d (nI (o1 D (p + 13)))) ∨ (b = 1 ∧ d = 0 ∧ (c = 0 ∨ dayP c)) ∨ (b = 2 ∧ dayP c ∧ timP d) ∨ (b = 3 ∧ madP (nI (o2 D (p + 16))) (nI (o2 D (p + 14))) d) ∨ (b = 4 ∧ (d = 0 ∨ d = 1))
theorem fit0 {D : Nat → Int32} {p : Nat} {c d : Int32} : fitP D p 0 c d ↔ madP c d (nI (o1 D (p + 13))) := by
  unfold fitP
  exact ⟨fun h => by
    rcases h with h | h | h | h | h
    · exact h.2
    all_goals exact absurd h.1 (by decide), fun h => Or.inl ⟨rfl, h⟩⟩
theorem fit1 {D : Nat → Int32} {p : Nat} {c d : Int32} : fitP D p 1 c d ↔ d = 0 ∧ (c = 0 ∨ dayP c) := by
  unfold fitP
  exact ⟨fun h => by
    rcases h with h | h | h | h | h
    rotate_left
    · exact h.2
    all_goals exact absurd h.1 (by decide), fun h => Or.inr (Or.inl ⟨rfl, h⟩)⟩
theorem fit2 {D : Nat → Int32} {p : Nat} {c d : Int32} : fitP D p 2 c d ↔ dayP c ∧ timP d := by
  unfold fitP
  exact ⟨fun h => by
    rcases h with h | h | h | h | h
    rotate_left 2
    · exact h.2
    all_goals exact absurd h.1 (by decide), fun h => Or.inr (Or.inr (Or.inl ⟨rfl, h⟩))⟩
theorem fit3 {D : Nat → Int32} {p : Nat} {c d : Int32} : fitP D p 3 c d ↔ madP (nI (o2 D (p + 16))) (nI (o2 D (p + 14))) d := by
  unfold fitP
  exact ⟨fun h => by
    rcases h with h | h | h | h | h
    rotate_left 3
    · exact h.2
    all_goals exact absurd h.1 (by decide), fun h => Or.inr (Or.inr (Or.inr (Or.inl ⟨rfl, h⟩)))⟩
theorem fit4 {D : Nat → Int32} {p : Nat} {c d : Int32} : fitP D p 4 c d ↔ d = 0 ∨ d = 1 := by
  unfold fitP
  exact ⟨fun h => by
    rcases h with h | h | h | h | h
    rotate_left 4
    · exact h.2
    all_goals exact absurd h.1 (by decide), fun h => Or.inr (Or.inr (Or.inr (Or.inr ⟨rfl, h⟩)))⟩
theorem fit5 {D : Nat → Int32} {p : Nat} {b c d : Int32} (h0 : b ≠ 0) (h1 : b ≠ 1) (h2 : b ≠ 2) (h3 : b ≠ 3) (h4 : b ≠ 4) : ¬ fitP D p b c d := fun h => by
  rcases h with h | h | h | h | h
  · exact h0 h.1
  · exact h1 h.1
  · exact h2 h.1
  · exact h3 h.1
  · exact h4 h.1
theorem made_b (K : Nat) (a b c : Int32) : f_Mo_isMade K a b c = some (b01 (madP a b c)) := by
  by_cases w : madP a b c
  · rw [(qM_made K a b c).1 w, b01_t w]
  · rw [(qM_made K a b c).2 w, b01_f w]
theorem day_b (K : Nat) (a : Int32) : f_Mo_isDay K a = some (b01 (dayP a)) := by
  by_cases w : dayP a
  · rw [(qM_day K a).1 w, b01_t w]
  · rw [(qM_day K a).2 w, b01_f w]
theorem time_b (K : Nat) (a : Int32) : f_Mo_isTime K a = some (b01 (timP a)) := by
  by_cases w : timP a
  · rw [(qM_time K a).1 w, b01_t w]
  · rw [(qM_time K a).2 w, b01_f w]
theorem b01_01 (P : Prop) : b01 P = 0 ∨ b01 P = 1 := by
  by_cases w : P
  · rw [b01_t w]; exact Or.inr rfl
  · rw [b01_f w]; exact Or.inl rfl
