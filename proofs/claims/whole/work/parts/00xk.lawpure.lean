/-! The law as a function answers 1. -/
theorem gl_b {N t : Nat} {G : CG} (h1 : gOk N G) (h2 : gLim t G) (ht : t ≤ 513) : 74 + G.gc ≤ 601024 ∧ 1720373 + G.gs ≤ 7293000 := by
  obtain ⟨-, -, a, b, c, d⟩ := h1
  obtain ⟨e, f⟩ := h2
  omega
theorem inv_b {K N t : Nat} {G : CG} {S : CS} {T : MS} (h : INV K N t G S T) (ht : t ≤ 513) : 74 + G.gc ≤ 601024 ∧ 1720373 + G.gs ≤ 7293000 := by
  obtain ⟨-, m, k, D, E, -, h | h⟩ := h
  · exact gl_b h.2.1.1 h.2.1.2 ht
  · exact gl_b h.1.2.1.1 h.1.2.1.2 ht
theorem inv_t {K N t : Nat} {G : CG} {S : CS} {T : MS} (h : INV K N t G S T) : INV K N (t + 1) G S T := by
  obtain ⟨hb, m, k, D, E, ⟨hk0, hp⟩, h | h⟩ := h
  · exact mkIA hb hk0 (pot_t hp) (ivA_t h)
  · exact mkIB hb hk0 (pot_t hp) (ivB_t h)
theorem law_stop {L i : Nat} (hL : L ≤ 3073) (h1 : 1 ≤ i) (h2 : i ≤ 4000) : (Int32.ofNat L - 6 < nI i) ↔ L < i + 6 := by
  show (nI L - nI 6 < nI i) ↔ _
  by_cases c : L < 6
  · refine ⟨fun _ => by omega, fun _ => ?_⟩
    exact Int32.lt_trans (nI_subneg c (by decide)) (nI_lt (a := 0) (b := i) (by omega) (by omega))
  · rw [pk_sub (by omega)]
    refine ⟨fun y => ?_, fun y => nI_lt (by omega) (by omega)⟩
    apply Classical.byContradiction
    intro z
    exact nI_nlt (a := L - 6) (b := i) (by omega) (by omega) y
theorem law_all {K N L : Nat} {xs : Nat → Int32} (hK : 600000 ≤ K) (hL : L ≤ 3073) : ∀ (d t w : Nat) (G : CG) (S : CS) (T : MS) (oo : Nat → Int64), t + d = 513 → d < w → INV K N t G S T → okQ (f_law_33 K L xs w (nI (1 + 6 * t)) G S T oo) := by
  intro d
  induction d with
  | zero =>
    intro t w G S T oo e1 e2 h
    have hb := inv_b h (Nat.le_of_eq e1)
    clear h
    obtain ⟨w, rfl⟩ : ∃ m, w = m + 1 := ⟨w - 1, by omega⟩
    rw [f_law_33, if_pos ((law_stop hL (by omega) (by omega)).mpr (by omega))]
    exact ⟨G, S, rfl, hb⟩
  | succ d ih =>
    intro t w G S T oo e1 e2 h
    have hb := inv_b h (Nat.le_trans (Nat.le_add_right t (d + 1)) (Nat.le_of_eq e1))
    obtain ⟨w, rfl⟩ : ∃ m, w = m + 1 := ⟨w - 1, by clear h; omega⟩
    rw [f_law_33]
    by_cases c : L < 1 + 6 * t + 6
    · rw [if_pos ((law_stop hL (by clear h; omega) (by clear h; omega)).mpr c)]
      exact ⟨G, S, rfl, hb⟩
    have hi : 1 + 6 * t + 5 < L := by clear h; omega
    have ht : t < 512 := by clear h; omega
    have hr : hRec K N t (1 + 6 * t) (f_law_33 K L xs w) := fun G S T oo h => by
      have := ih (t + 1) w G S T oo (by clear h; omega) (by clear h; omega) h
      rw [show 1 + 6 * (t + 1) = 1 + 6 * t + 6 by clear h; omega] at this
      exact this
    rw [if_neg (fun y => c ((law_stop hL (by clear h; omega) (by clear h; omega)).mp y)), q_g (q_in (by clear h; omega) (by clear h; omega))]
    generalize (xs (nI (1 + 6 * t)).toNatClampNeg &&& 31) = x
    by_cases c0 : x = 0
    · rw [if_pos c0]
      exact lw_feed hK ht hi hL hr h
    rw [if_neg c0]
    by_cases c1 : x = 1
    · rw [if_pos c1]
      exact lw_end hK ht hi hL hr h
    rw [if_neg c1]
    by_cases c2 : x = 2
    · rw [if_pos c2]
      exact lw_clear hK ht hi hL hr h
    rw [if_neg c2]
    by_cases c3 : x = 3
    · rw [if_pos c3]
      exact lw_format hK ht hi hL hr h
    rw [if_neg c3]
    by_cases c4 : x = 4
    · rw [if_pos c4]
      exact lw_poke hK ht hi hL hr h
    rw [if_neg c4]
    by_cases c5 : x = 5
    · rw [if_pos c5]
      exact lw_kind hK ht hi hL hr h
    rw [if_neg c5]
    by_cases c6 : x = 6
    · rw [if_pos c6]
      exact lw_fault hK ht hi hL hr h
    rw [if_neg c6]
    by_cases c7 : x = 7
    · rw [if_pos c7]
      exact lw_byteAt hK ht hi hL hr h
    rw [if_neg c7]
    by_cases c8 : x = 8
    · rw [if_pos c8]
      exact lw_items hK ht hi hL hr h
    rw [if_neg c8]
    by_cases c9 : x = 9
    · rw [if_pos c9]
      exact lw_letter hK ht hi hL hr h
    rw [if_neg c9]
    by_cases c10 : x = 10
    · rw [if_pos c10]
      exact lw_about hK ht hi hL hr h
    rw [if_neg c10]
    by_cases c11 : x = 11
    · rw [if_pos c11]
      exact lw_content hK ht hi hL hr h
    rw [if_neg c11]
    by_cases c12 : x = 12
    · rw [if_pos c12]
      exact lw_enter hK ht hi hL hr h
    rw [if_neg c12]
    by_cases c13 : x = 13
    · rw [if_pos c13]
      exact lw_up hK ht hi hL hr h
    rw [if_neg c13]
    by_cases c14 : x = 14
    · rw [if_pos c14]
      exact lw_make hK ht hi hL hr h
    rw [if_neg c14]
    by_cases c15 : x = 15
    · rw [if_pos c15]
      exact lw_write hK ht hi hL hr h
    rw [if_neg c15]
    by_cases c16 : x = 16
    · rw [if_pos c16]
      exact lw_grow hK ht hi hL hr h
    rw [if_neg c16]
    by_cases c17 : x = 17
    · rw [if_pos c17]
      exact lw_cut hK ht hi hL hr h
    rw [if_neg c17]
    by_cases c18 : x = 18
    · rw [if_pos c18]
      exact lw_remove hK ht hi hL hr h
    rw [if_neg c18]
    by_cases c19 : x = 19
    · rw [if_pos c19]
      exact lw_stamp hK ht hi hL hr h
    rw [if_neg c19]
    by_cases c20 : x = 20
    · rw [if_pos c20]
      exact lw_plan hK ht hi hL hr h
    rw [if_neg c20]
    by_cases c21 : x = 21
    · rw [if_pos c21]
      exact lw_target hK ht hi hL hr h
    rw [if_neg c21]
    by_cases c22 : x = 22
    · rw [if_pos c22]
      exact lw_fail hK ht hi hL hr h
    rw [if_neg c22]
    by_cases c23 : x = 23
    · rw [if_pos c23]
      exact lw_run hK ht hi hL hr h
    rw [if_neg c23]
    exact lw_1388 hr (inv_t h)
theorem nocap0 (p : Nat) : ¬ cpP (fun _ => 0) p := nocap_of (Or.inl (by rw [show o4 (fun _ => 0) p = 0 from rfl]; decide))
theorem inv_0 {K N : Nat} (h1 : 256 ≤ N) (h2 : N ≤ 1024) (h3 : N % 2 = 0) : INV K N 0 (law_G N) (law_S N) (law_T N) := by
  refine mkIA (m := 0) (k := 0) (D := fun _ => 0) (E := fun _ => 0) ⟨fun _ => (show fits .byte (.int 0) = true by decide), fun _ => (show fits .byte (.int 0) = true by decide)⟩ rfl (by unfold pot; omega) ?_
  refine ⟨⟨⟨h1, h2, h3⟩, ⟨rfl, rfl, rfl⟩, ⟨rfl, rfl⟩, ⟨0, Nat.zero_le _, rfl, rfl, fun j hj => absurd hj (Nat.not_lt_zero _), fun _ _ => rfl, fun _ _ => (show fits .byte (.int 0) = true by decide)⟩, ⟨0, Nat.zero_le _, rfl, rfl, fun j hj => absurd hj (Nat.not_lt_zero _)⟩, ⟨rfl, rfl, Or.inl rfl⟩, ⟨Or.inl (fun _ _ => rfl), fun _ _ => rfl, ?_, Nat.zero_le _⟩, fun fks z e => ?_, rfl⟩, ⟨?_, ?_⟩, Or.inl rfl, Or.inl rfl⟩
  · intro vs _ hv
    cases vs with
    | nil => exact Nat.le_refl _
    | cons v vs => exact absurd (hv v List.mem_cons_self).2 (nocap0 _)
  · have := (trE_scL e).1.1.1
    rw [show o2 (fun _ => 0) 11 = 0 from rfl] at this
    exact absurd this (by decide)
  · exact ⟨rfl, ⟨rfl, rfl, rfl, rfl, rfl, rfl, rfl, rfl, rfl, rfl, rfl, rfl, rfl⟩, (show 64 ≤ 64 by decide), (show 64 ≤ 9000 by decide), (show 1024 ≤ 1024 by decide), (show 1024 ≤ 400000 by decide)⟩
  · exact ⟨Nat.zero_le _, Nat.zero_le _⟩
theorem law_holds : law_pure := by
  intro L xs hL r _
  obtain ⟨-, n1, n2, n3⟩ := vt_n_ok r
  obtain ⟨G', S', a, b⟩ := law_all (K := 600000) (N := vt_n r) (L := L) (xs := xs) (Nat.le_refl _) hL 513 0 600000 (law_G (vt_n r)) (law_S (vt_n r)) (law_T (vt_n r)) (fun _ => 0) (by omega) (by omega) (inv_0 n1 n2 n3)
  exact ⟨600000, G', S', a, b⟩
