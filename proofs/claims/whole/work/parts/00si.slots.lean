/-! make: where a new entry is to stand. -/
abbrev frS (bt : Nat → Nat) (e i : Nat) : Prop := e ≤ i ∨ bt i = 229
def rnF (bt : Nat → Nat) (e : Nat) : Nat → Nat
  | 0 => 0
  | i + 1 => if e ≤ i ∨ bt i = 229 then rnF bt e i else i + 1
theorem rnF_le (bt : Nat → Nat) (e : Nat) : ∀ i, rnF bt e i ≤ i := by
  intro i
  induction i with
  | zero => exact Nat.le_refl _
  | succ i ih =>
    rw [rnF]
    split <;> omega
theorem rnF_fr {bt : Nat → Nat} {e : Nat} : ∀ (i j : Nat), rnF bt e i ≤ j → j < i → frS bt e j := by
  intro i
  induction i with
  | zero => intro j _ h; omega
  | succ i ih =>
    intro j h1 h2
    rw [rnF] at h1
    by_cases c : e ≤ i ∨ bt i = 229
    · rw [if_pos c] at h1
      by_cases x : j = i
      · rw [x]; exact c
      · exact ih j h1 (by omega)
    · rw [if_neg c] at h1
      omega
theorem rnF_e {bt : Nat → Nat} {e : Nat} : ∀ i, rnF bt e i ≤ e := by
  intro i
  induction i with
  | zero => exact Nat.zero_le _
  | succ i ih =>
    rw [rnF]
    by_cases c : e ≤ i ∨ bt i = 229
    · rw [if_pos c]; exact ih
    · rw [if_neg c]; omega
abbrev enE (bt : Nat → Nat) (L e : Nat) : Prop := e ≤ L ∧ (e < L → bt e = 0) ∧ ∀ i, i < e → bt i ≠ 0
theorem enE_ex (bt : Nat → Nat) : ∀ L, ∃ e, enE bt L e := by
  intro L
  induction L with
  | zero => exact ⟨0, Nat.le_refl _, fun h => absurd h (by omega), fun i h => absurd h (by omega)⟩
  | succ L ih =>
    obtain ⟨e, a, b, c⟩ := ih
    by_cases x : e < L
    · exact ⟨e, by omega, fun _ => b x, c⟩
    · obtain rfl : e = L := by omega
      by_cases y : bt e = 0
      · exact ⟨e, by omega, fun _ => y, c⟩
      · refine ⟨e + 1, Nat.le_refl _, fun h => absurd h (by omega), fun i hi => ?_⟩
        by_cases w : i = e
        · rw [w]; exact y
        · exact c i (by omega)
/-- where the search ends -/
abbrev stE (bt : Nat → Nat) (L e W s : Nat) : Prop := s ≤ L ∧ (s = L ∨ W ≤ s - rnF bt e s) ∧ ∀ j, j < s → j - rnF bt e j < W
theorem stE_ex (bt : Nat → Nat) (e W : Nat) : ∀ L, ∃ s, stE bt L e W s := by
  intro L
  induction L with
  | zero => exact ⟨0, Nat.le_refl _, Or.inl rfl, fun j h => absurd h (by omega)⟩
  | succ L ih =>
    obtain ⟨s, a, b, c⟩ := ih
    by_cases x : W ≤ s - rnF bt e s
    · exact ⟨s, by omega, Or.inr x, c⟩
    · obtain rfl : s = L := by omega
      refine ⟨s + 1, Nat.le_refl _, Or.inl rfl, fun j hj => ?_⟩
      by_cases w : j = s
      · rw [w]; omega
      · exact c j (by omega)
theorem stE_W {bt : Nat → Nat} {L e W s : Nat} (hW : 1 ≤ W) (h : stE bt L e W s) : s - rnF bt e s ≤ W := by
  obtain ⟨a, b, c⟩ := h
  cases s with
  | zero => omega
  | succ s =>
    have h1 := c s (by omega)
    have h2 := rnF_le bt e s
    rw [rnF]
    split <;> omega
def exX (b W L per : Nat) : Nat := if b + W ≤ L then 0 else (b + W - L + per - 1) / per
/-! the reference -/
theorem qM_end {K N L : Nat} {D : Nat → Int32} {ch : List Nat} {T : MS} {p w : Int32} (hK : 20000 ≤ K) (h : hdOk N D) (hN : N ≤ 1024) (hc0 : T.v_c = nI (hc D)) (ha0 : T.v_a = nI (ha D)) (hD : T.v_disk = D) (hcl : ∀ x ∈ ch, isCl N D x) (hl : ch.length ≤ 514) (hf : ∀ q, q < ch.length → T.v_folder q = nI (ch.getD q 0)) (hL : L = ch.length * 16 * hc D) (hLK : L < 19000) (hpl : ∀ s, s < L → plS D ch s + 32 ≤ 524288) {e : Nat} (he : enE (fun s => o1 D (plS D ch s)) L e) : f_Mo_make_141 K K p w (nI L) 0 T = f_Mo_make_167 K p w (nI L) (nI e) T := by
  have go : ∀ (d i k : Nat), i + d = e → d < k → f_Mo_make_141 K k p w (nI L) (nI i) T = f_Mo_make_167 K p w (nI L) (nI e) T := by
    intro d
    induction d with
    | zero =>
      intro i k h1 h2
      obtain ⟨k, rfl⟩ : ∃ m, k = m + 1 := ⟨k - 1, by omega⟩
      obtain rfl : i = e := by omega
      rw [f_Mo_make_141]
      by_cases c : L ≤ i
      · rw [if_pos (nI_le c (by have := he.1; omega))]
      · have hp := hpl i (by omega)
        have h0 : o1 D (plS D ch i) = 0 := he.2.1 (by omega)
        rw [if_neg (nI_ge (by omega) (by omega)), qM_slotAtN hc0 ha0 h hN hcl hl hf (by omega), q_c, qM_one T (by omega), q_c, hD, h0, if_pos (show nI 0 = 0 from rfl)]
    | succ d ih =>
      intro i k h1 h2
      obtain ⟨k, rfl⟩ : ∃ m, k = m + 1 := ⟨k - 1, by omega⟩
      have hi : i < L := by have := he.1; omega
      have hp := hpl i hi
      have h0 : ¬ o1 D (plS D ch i) = 0 := he.2.2 i (by omega)
      have h256 := o1_lt D (plS D ch i)
      rw [f_Mo_make_141, if_neg (nI_ge hi (by omega)), qM_slotAtN hc0 ha0 h hN hcl hl hf (by omega), q_c, qM_one T (by omega), q_c, hD, if_neg (nI_ne0 (by omega) (by omega)), q_l, nI_1]
      exact ih (i + 1) k (by omega) (by omega)
  exact go e 0 K (by omega) (by have := he.1; omega)
theorem qM_run {K N L W : Nat} {D : Nat → Int32} {ch : List Nat} {T : MS} {p : Int32} (hK : 20000 ≤ K) (h : hdOk N D) (hN : N ≤ 1024) (hc0 : T.v_c = nI (hc D)) (ha0 : T.v_a = nI (ha D)) (hD : T.v_disk = D) (hcl : ∀ x ∈ ch, isCl N D x) (hl : ch.length ≤ 514) (hf : ∀ q, q < ch.length → T.v_folder q = nI (ch.getD q 0)) (hL : L = ch.length * 16 * hc D) (hLK : L < 19000) (hpl : ∀ s, s < L → plS D ch s + 32 ≤ 524288) {e s : Nat} (hW : 1 ≤ W) (hW2 : W ≤ 100) (he : e ≤ L) (hs : stE (fun s => o1 D (plS D ch s)) L e W s) : f_Mo_make_167 K p (nI W) (nI L) (nI e) T = f_Mo_make_225 K p (nI W) (nI L) (nI e) (nI (rnF (fun s => o1 D (plS D ch s)) e s)) T := by
  have hsL := hs.1
  have go : ∀ (d i k : Nat), i + d = s → d < k → f_Mo_make_173 K k p (nI W) (nI L) (nI e) (nI (rnF (fun s => o1 D (plS D ch s)) e i)) (nI i) T = f_Mo_make_225 K p (nI W) (nI L) (nI e) (nI (rnF (fun s => o1 D (plS D ch s)) e s)) T := by
    intro d
    induction d with
    | zero =>
      intro i k h1 h2
      obtain ⟨k, rfl⟩ : ∃ m, k = m + 1 := ⟨k - 1, by omega⟩
      obtain rfl : i = s := by omega
      have hr := rnF_le (fun s => o1 D (plS D ch s)) e i
      rw [f_Mo_make_173]
      by_cases c : L ≤ i
      · rw [if_pos (nI_le c (by omega))]
      · rw [if_neg (nI_ge (by omega) (by omega)), pk_sub hr, if_pos (nI_le (hs.2.1.resolve_left (by omega)) (by omega))]
    | succ d ih =>
      intro i k h1 h2
      obtain ⟨k, rfl⟩ : ∃ m, k = m + 1 := ⟨k - 1, by omega⟩
      have hr := rnF_le (fun s => o1 D (plS D ch s)) e i
      have hi : i < L := by omega
      have hp := hpl i hi
      have h256 := o1_lt D (plS D ch i)
      have nx := ih (i + 1) k (by omega) (by omega)
      rw [rnF] at nx
      rw [f_Mo_make_173, if_neg (nI_ge hi (by omega)), pk_sub hr, if_neg (nI_ge (hs.2.2 i (by omega)) (by omega))]
      unfold f_Mo_make_219
      by_cases c1 : e ≤ i
      · rw [if_pos (nI_le c1 (by omega)), q_l, nI_1]
        rw [if_pos (Or.inl c1)] at nx
        exact nx
      rw [if_neg (nI_ge (by omega) (by omega)), qM_slotAtN hc0 ha0 h hN hcl hl hf (by omega), q_c, qM_one T (by omega), q_c, hD]
      by_cases c2 : o1 D (plS D ch i) = 229
      · rw [c2, if_pos (show nI 229 = 229 from rfl), q_l, nI_1]
        rw [if_pos (Or.inr c2)] at nx
        exact nx
      · rw [if_neg (show ¬ nI (o1 D (plS D ch i)) = 229 from fun y => c2 ((nI_eq (by omega) (by decide)).mp y)), nI_1, q_l, q_l]
        rw [if_neg (fun y => y.elim c1 c2)] at nx
        exact nx
  unfold f_Mo_make_167
  exact go s 0 K (by omega) (by omega)
