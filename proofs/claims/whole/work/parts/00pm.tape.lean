/-! The calls that touch the tape alone, and fail. -/
theorem ivA_tp {N t m : Nat} {D E : Nat → Int32} {G : CG} {S : CS} {T : MS} (h : ivA N t m D E G S T) {a b : Nat → Int32} {c : Int32} {a' b' : Nat → Int32} {c' d' : Int32} (ht : iv_tape (tpS S a b c) (tpT T a' b' c' d')) : ivA N t m D E G (tpS S a b c) (tpT T a' b' c' d') := by
  obtain ⟨⟨h0, h1, h2, -, h5, h6, h7, h8, h9⟩, hg, hl, hc⟩ := h
  exact ⟨⟨h0, h1, h2, ht, h5, h6, h7, h8, h9⟩, hg, hl, hc⟩
theorem ivA_fl {N t m : Nat} {D E : Nat → Int32} {G : CG} {S : CS} {T : MS} (h : ivA N t m D E G S T) {a b : Nat → Int32} {c d : Int32} (ht : flR (flS S a b c) ((T.u_v_thrown 0).u_v_told d)) : ivA N t m D E G (flS S a b c) ((T.u_v_thrown 0).u_v_told d) := by
  obtain ⟨⟨h0, h1, h2, h4, -, h6, h7, h8, h9⟩, hg, hl, hc⟩ := h
  exact ⟨⟨h0, h1, h2, h4, ht, h6, h7, h8, h9⟩, hg, hl, hc⟩
theorem opA_feed {K N t m : Nat} {D E : Nat → Int32} {G : CG} {S : CS} {T : MS} (hK : 20000 ≤ K) (h : ivA N t m D E G S T) (p0 p1 p2 p3 p4 : Int32) : ∃ S' T', f_Vt_feed K G S p0 p1 p2 p3 p4 = some S' ∧ f_Mo_feed K T p0 p1 p2 p3 p4 = some T' ∧ T'.v_thrown = nI 0 ∧ ivA N (t + 1) m D E G S' T' ∧ S'.v_Tp_used = S.v_Tp_used := by
  obtain ⟨a, b, c, a', b', c', d', e1, e2, e3, e4⟩ := tp_feed (K := K) (G := G) (by omega) h.1.2.2.2.1 p0 p1 p2 p3 p4
  exact ⟨_, _, e1, e2, rfl, ivA_t (ivA_tp h e3), e4⟩
theorem opA_clear {K N t m : Nat} {D E : Nat → Int32} {G : CG} {S : CS} {T : MS} (h : ivA N t m D E G S T) : ∃ S' T', f_Vt_clear K G S = some S' ∧ f_Mo_clear K T = some T' ∧ T'.v_thrown = nI 0 ∧ ivA N (t + 1) m D E G S' T' ∧ S'.v_Tp_used = nI 0 := by
  obtain ⟨a, b, c, a', b', c', d', e1, e2, e3, e4⟩ := tp_clear (K := K) (G := G) h.1.2.2.2.1
  exact ⟨_, _, e1, e2, rfl, ivA_t (ivA_tp h e3), e4⟩
theorem opA_end {K N t m : Nat} {D E : Nat → Int32} {G : CG} {S : CS} {T : MS} (hK : 20000 ≤ K) (h : ivA N t m D E G S T) (p0 : Int32) : ∃ r S' T', f_Vt_end K G S p0 = some (r, S') ∧ f_Mo_end K T p0 = some (r, T') ∧ T'.v_thrown = nI 0 ∧ ivA N (t + 1) m D E G S' T' ∧ ∃ k k', S.v_Tp_used = nI k ∧ S'.v_Tp_used = nI k' ∧ k' ≤ k + 20 := by
  obtain ⟨r, a, b, c, a', b', c', d', e1, e2, e3, e4⟩ := tp_end (K := K) (G := G) (by omega) h.1.2.2.2.1 p0
  exact ⟨r, _, _, e1, e2, rfl, ivA_t (ivA_tp h e3), e4⟩
theorem opA_fail {K N t m : Nat} {D E : Nat → Int32} {G : CG} {S : CS} {T : MS} (h : ivA N t m D E G S T) (p0 p1 : Int32) : ∃ r S' T', f_Vt_fail K G S p0 p1 = some (r, S') ∧ f_Mo_fail K T p0 p1 = some (r, T') ∧ T'.v_thrown = nI 0 ∧ ivA N (t + 1) m D E G S' T' ∧ S'.v_Tp_used = S.v_Tp_used := by
  obtain ⟨r, a, b, c, d, e1, e2, e3⟩ := fl_fail (K := K) (G := G) h.1.2.2.2.2.1 p0 p1
  exact ⟨r, _, _, e1, e2, rfl, ivA_t (ivA_fl h e3), rfl⟩
