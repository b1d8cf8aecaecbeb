theorem qB_ref {K N m hh : Nat} {D E : Nat → Int32} {fks : List Nat} {z : SS} {G : CG} {S : CS} {T : MS} (hK : 20000 ≤ K) (hN1 : 256 ≤ N) (hN : N ≤ 1024) (v : tv N m D E fks z hh G S T) (hH : agH D E) (hbl : S.v_Pl_blocks = nI (N / 2)) (a : Int32) : ∃ ans S' T', ans ≤ 15 ∧ f_Pl_refusal K G S a 0 = some (nI ans, S') ∧ f_Mo_refusal K T a = some (nI ans, T') ∧ (∀ t, ivA N t m D E G S T → ivA N t m D E G S' T') ∧ S'.v_Tp_used = S.v_Tp_used ∧ S'.v_Tb_clusters = S.v_Tb_clusters ∧ T'.v_thrown = T.v_thrown ∧ T'.v_k = T.v_k ∧ (ans = 0 → plR N D S' T') := by
  have ho := v.2.2.2.1
  have hff := hd_facts ho hN
  have hM := v.1.1.1
  have hcI := v.2.1.2.1
  obtain ⟨ec, ev', ey, ez, er, ea, ek⟩ := agH_n hH
  have hs : S.v_Tb_start = nI (ha D) := by rw [← ea]; exact hcI.2.2.2.2.2.2.2.2.1
  have hlk : f_Mo_look K T = some T := by
    unfold f_Mo_look
    rw [if_neg (show ¬ T.v_looked = 0 by rw [v.1.2.2]; decide)]
  have hT0 : f_Mo_refusal K T a = if nI (ha D % 2) = 1 then some (11, T) else if a = 64 then f_Mo_refusal_52 K a T else if a = 128 then f_Mo_refusal_52 K a T else if a = 256 then f_Mo_refusal_52 K a T else some (12, T) := by
    unfold f_Mo_refusal
    rw [hlk, q_b, v.1.2.1, if_pos (show nI 0 ≤ 0 by decide), hM.2.2.2.2.2.2.2.1, show (2 : Int32) = nI 2 from rfl, pk_rem (by omega) (by decide) (by decide)]
  by_cases hev : ha D % 2 = 0
  rotate_left
  · have h1 : ha D % 2 = 1 := by omega
    refine ⟨11, S, T, by decide, ?_, ?_, fun _ h => h, rfl, rfl, rfl, rfl, fun y => by omega⟩
    · unfold f_Pl_refusal
      rw [if_pos rfl, hs, show (2 : Int32) = nI 2 from rfl, pk_rem (by omega) (by decide) (by decide), h1, if_neg (by decide)]
      rfl
    · rw [hT0, h1, if_pos (show nI 1 = 1 from rfl)]
      rfl
  have hne : ¬ nI (ha D % 2) = 1 := by rw [hev]; decide
  by_cases hP : a = 64 ∨ a = 128 ∨ a = 256
  · obtain ⟨P, hP2, rfl⟩ : ∃ P, (P = 64 ∨ P = 128 ∨ P = 256) ∧ a = nI P := by
      rcases hP with e | e | e
      · exact ⟨64, Or.inl rfl, e⟩
      · exact ⟨128, Or.inr (Or.inl rfl), e⟩
      · exact ⟨256, Or.inr (Or.inr rfl), e⟩
    have hT1 : f_Mo_refusal K T (nI P) = f_Mo_refusal_52 K (nI P) T := by
      rw [hT0, if_neg hne]
      by_cases g1 : nI P = 64
      · rw [if_pos g1]
      rw [if_neg g1]
      by_cases g2 : nI P = 128
      · rw [if_pos g2]
      rw [if_neg g2, if_pos (hP.resolve_left g1 |>.resolve_left g2)]
    rw [hT1]
    exact qB_refusal hK hN1 hN v hH hev hP2 hbl
  · refine ⟨12, S, T, by decide, ?_, ?_, fun _ h => h, rfl, rfl, rfl, rfl, fun y => by omega⟩
    · unfold f_Pl_refusal f_Pl_divide f_Pl_refusal_40
      rw [if_pos rfl, hs, show (2 : Int32) = nI 2 from rfl, pk_rem (by omega) (by decide) (by decide), hev, if_pos (show nI 0 = 0 from rfl), if_neg (fun e => hP (Or.inl e)), if_neg (fun e => hP (Or.inr (Or.inl e))), if_neg (fun e => hP (Or.inr (Or.inr e))), q_c, if_pos rfl]
      rfl
    · rw [hT0, if_neg hne, if_neg (fun e => hP (Or.inl e)), if_neg (fun e => hP (Or.inr (Or.inl e))), if_neg (fun e => hP (Or.inr (Or.inr e)))]
      rfl
theorem ref_flt {K N : Nat} {D E : Nat → Int32} {G : CG} {S : CS} {T : MS} (hR : lkR N D T) (h2 : flt N D ≠ 0) (a : Int32) : f_Pl_refusal K G S a (nI (flt N D)) = some (nI (flt N D), S) ∧ f_Mo_refusal K T a = some (nI (flt N D), T) := by
  have h6 := flt_le N D
  refine ⟨?_, ?_⟩
  · unfold f_Pl_refusal
    rw [if_neg (nI_ne0 (by omega) (by omega))]
  · have hlk : f_Mo_look K T = some T := by
      unfold f_Mo_look
      rw [if_neg (show ¬ T.v_looked = 0 by rw [hR.1]; decide)]
    unfold f_Mo_refusal
    rw [hlk, q_b, (lkR_f hR).1, if_neg (show ¬ nI (flt N D) ≤ 0 from nI_nle (by omega) (by omega))]
theorem opA_plan {K N t m : Nat} {D E : Nat → Int32} {G : CG} {S : CS} {T : MS} (hK : 20000 ≤ K) (h : ivA N t m D E G S T) (a b : Int32) : ∃ r G' S' T', f_Vt_plan K G S a b = some (r, G', S') ∧ f_Mo_plan K T a b = some (r, T') ∧ T'.v_thrown = nI 0 ∧ ivA N (t + 1) m D E G' S' T' ∧ S'.v_Tp_used = S.v_Tp_used := by
  obtain ⟨G1, S1, T1, c1, m1, p1, p2, p3, p4, hiv, hco, hcl, p5⟩ := preA hK h
  have hN1 := h.1.1.1
  have hN := h.1.1.2.1
  have h6 := flt_le N D
  have htp : S1.v_Tp_used = S.v_Tp_used := coV_v_Tp_used hco
  have hR1 : lkR N D T1 := by
    obtain ⟨T2, e1, e2, e3⟩ := ivA_lookM hK (ivA_thr h 0)
    rw [m1] at e1
    rw [Option.some.inj e1]
    exact e3
  have hmix : ivA N t m D E G S T1 := ⟨baA_co (ivA_thr h 0).1 rfl hcl, h.2.1, Or.inr hR1, h.2.2.2⟩
  have href : f_Mo_plan K T a b = if nI (flt N D) = 1 then some (-1, T1) else if b < 0 then some (-1, T1) else if b ≤ 6 then (lf_c (f_Mo_refusal K T1 a) fun r_7 S_7 => if b = 0 then (f_Mo_plan_50 K b r_7 S_7) else (if r_7 ≤ 0 then (if b = 1 then (some (S_7.v_groups, S_7)) else (if b = 2 then (some (S_7.v_inodes, S_7)) else (if b = 3 then (some (S_7.v_fixedBlocks, S_7)) else (if b = 4 then (some (S_7.v_moves, S_7)) else (if b = 5 then (some (S_7.v_builds, S_7)) else (some ((((S_7.v_blocks - 1) - S_7.v_fixedBlocks) - S_7.v_builds) - S_7.v_kept, S_7))))))) else (f_Mo_plan_50 K b r_7 S_7))) else some (-1, T1) := by
    unfold f_Mo_plan f_Mo_plan_34
    rw [q_l, m1, q_b, p2, if_pos rfl, p3]
  have out : (b < 0 ∨ 6 < b) → ∃ r G' S' T', f_Vt_plan K G S a b = some (r, G', S') ∧ f_Mo_plan K T a b = some (r, T') ∧ T'.v_thrown = nI 0 ∧ ivA N (t + 1) m D E G' S' T' ∧ S'.v_Tp_used = S.v_Tp_used := fun w => by
    refine ⟨-1, G, S, T1, ?_, ?_, p1, ivA_t hmix, rfl⟩
    · unfold f_Vt_plan f_Vt_plan_18
      by_cases w1 : b < 0
      · rw [if_pos w1]
      · rw [if_neg w1, if_pos (w.resolve_left w1)]
    · rw [href]
      by_cases w0 : nI (flt N D) = 1
      · rw [if_pos w0]
      rw [if_neg w0]
      by_cases w1 : b < 0
      · rw [if_pos w1]
      · rw [if_neg w1, if_neg (Int32.not_le.mpr (w.resolve_left w1))]
  by_cases w1 : b < 0
  · exact out (Or.inl w1)
  by_cases w2 : 6 < b
  · exact out (Or.inr w2)
  have w3 : b ≤ 6 := Int32.not_lt.mp w2
  rw [href]
  unfold f_Vt_plan f_Vt_plan_14 f_Vt_plan_18
  rw [if_neg w1, if_neg w2, look_n c1, if_neg w1, if_pos w3]
  by_cases f1 : flt N D = 1
  · rw [f1, if_pos rfl, if_neg (show ¬ nI 0 = 1 by decide), if_pos (show nI 1 = 1 from rfl)]
    exact ⟨_, _, _, _, rfl, rfl, p1, ivA_t hiv, htp⟩
  have f1' : ¬ nI (flt N D) = 1 := fun y => f1 ((nI_eq (b := 1) (by omega) (by decide)).mp y)
  rw [if_neg f1, if_pos (show nI 1 = 1 from rfl), if_neg f1', p4]
  unfold f_Mo_plan_50
  by_cases f0 : flt N D = 0
  rotate_left
  · obtain ⟨e1, e2⟩ := ref_flt (K := K) (E := E) (G := G1) (S := S1) (T := T1) hR1 f0 a
    rw [e1, e2, q_c, q_c]
    by_cases b0 : b = 0
    · rw [if_pos b0, if_pos b0, if_pos b0]
      exact ⟨_, _, _, _, rfl, rfl, p1, ivA_t hiv, htp⟩
    · rw [if_neg b0, if_neg b0, if_neg (nI_ne0 (by omega) (by omega)), if_neg (show ¬ nI (flt N D) ≤ 0 from nI_nle (by omega) (by omega)), if_neg b0]
      exact ⟨_, _, _, _, rfl, rfl, p1, ivA_t hiv, htp⟩
  obtain ⟨fks, z, hh, etr, v⟩ := p5 f0
  have hH := ((agF_A hN1 hN h.1.2.2.2.2.2.2.1.1).2 v.2.2.2.1).1
  obtain ⟨ans, S', T', g1, g2, g3, g4, g5, g6, g7, g8, g9⟩ := qB_ref (K := K) hK hN1 hN v hH hiv.1.2.1.2.2 a
  rw [f0, show nI 0 = 0 from rfl, g2, g3, q_c, q_c]
  by_cases b0 : b = 0
  · rw [if_pos b0, if_pos b0, if_pos b0]
    exact ⟨_, _, _, _, rfl, rfl, g7.trans p1, ivA_t (g4 t hiv), g5.trans htp⟩
  rw [if_neg b0, if_neg b0]
  by_cases an : ans = 0
  rotate_left
  · rw [if_neg (nI_ne0 (by omega) (by omega)), if_neg (show ¬ nI ans ≤ 0 from nI_nle (by omega) (by omega)), if_neg b0]
    exact ⟨_, _, _, _, rfl, rfl, g7.trans p1, ivA_t (g4 t hiv), g5.trans htp⟩
  rw [an, if_pos (show nI 0 = 0 from rfl), if_pos (show nI 0 ≤ 0 by decide)]
  obtain ⟨⟨r1, r2, r3, r4, r5, r6⟩, -⟩ := g9 an
  unfold f_Pl_number
  rw [r3, r1, r2, r4, r5, r6]
  have fin := ivA_t (g4 t hiv)
  have fin2 := g5.trans htp
  have fin3 := g7.trans p1
  by_cases b1 : b = 1
  · rw [if_pos b1, if_pos b1, q_c]
    exact ⟨_, _, _, _, rfl, rfl, fin3, fin, fin2⟩
  rw [if_neg b1, if_neg b1]
  by_cases b2 : b = 2
  · rw [if_pos b2, if_pos b2, q_c]
    exact ⟨_, _, _, _, rfl, rfl, fin3, fin, fin2⟩
  rw [if_neg b2, if_neg b2]
  by_cases b3 : b = 3
  · rw [if_pos b3, if_pos b3, q_c]
    exact ⟨_, _, _, _, rfl, rfl, fin3, fin, fin2⟩
  rw [if_neg b3, if_neg b3]
  by_cases b4 : b = 4
  · rw [if_pos b4, if_pos b4, q_c]
    exact ⟨_, _, _, _, rfl, rfl, fin3, fin, fin2⟩
  rw [if_neg b4, if_neg b4]
  by_cases b5 : b = 5
  · rw [if_pos b5, if_pos b5, q_c]
    exact ⟨_, _, _, _, rfl, rfl, fin3, fin, fin2⟩
  rw [if_neg b5, if_neg b5]
  rw [q_c]
  exact ⟨_, _, _, _, rfl, rfl, fin3, fin, fin2⟩
theorem opA_target {K N t m : Nat} {D E : Nat → Int32} {G : CG} {S : CS} {T : MS} (hK : 20000 ≤ K) (h : ivA N t m D E G S T) (a b : Int32) : ∃ r G' S' T', f_Vt_target K G S a b = some (r, G', S') ∧ f_Mo_target K T a b = some (r, T') ∧ T'.v_thrown = nI 0 ∧ ivA N (t + 1) m D E G' S' T' ∧ S'.v_Tp_used = S.v_Tp_used := by
  obtain ⟨G1, S1, T1, c1, m1, p1, p2, p3, p4, hiv, hco, hcl, p5⟩ := preA hK h
  have hN1 := h.1.1.1
  have hN := h.1.1.2.1
  have h6 := flt_le N D
  have htp : S1.v_Tp_used = S.v_Tp_used := coV_v_Tp_used hco
  have hR1 : lkR N D T1 := by
    obtain ⟨T2, e1, e2, e3⟩ := ivA_lookM hK (ivA_thr h 0)
    rw [m1] at e1
    rw [Option.some.inj e1]
    exact e3
  unfold f_Vt_target f_Vt_target_4 f_Vt_target_23 f_Mo_target f_Mo_target_32
  rw [look_n c1, q_l (T.u_v_thrown 0), m1, q_b, p2, if_pos (show (0 : Int32) = 0 from rfl), p3, p4]
  by_cases f1 : flt N D = 1
  · rw [f1, if_pos rfl, if_neg (show ¬ nI 0 = 1 by decide), if_pos (show nI 1 = 1 from rfl)]
    exact ⟨_, _, _, _, rfl, rfl, p1, ivA_t hiv, htp⟩
  have f1' : ¬ nI (flt N D) = 1 := fun y => f1 ((nI_eq (b := 1) (by omega) (by decide)).mp y)
  rw [if_neg f1, if_pos (show nI 1 = 1 from rfl), if_neg f1']
  by_cases f0 : flt N D = 0
  rotate_left
  · obtain ⟨e1, e2⟩ := ref_flt (K := K) (E := E) (G := G1) (S := S1) (T := T1) hR1 f0 a
    rw [e1, e2, q_c, q_c, if_neg (nI_ne0 (by omega) (by omega)), if_neg (show ¬ nI (flt N D) ≤ 0 from nI_nle (by omega) (by omega))]
    exact ⟨_, _, _, _, rfl, rfl, p1, ivA_t hiv, htp⟩
  obtain ⟨fks, z, hh, etr, v⟩ := p5 f0
  have ho := v.2.2.2.1
  have hff := hd_facts ho hN
  have hH := ((agF_A hN1 hN h.1.2.2.2.2.2.2.1.1).2 ho).1
  obtain ⟨ec, ev', ey, ez, er, ea, ek⟩ := agH_n hH
  have hGn := v.2.1.2.1.1
  have hTk := v.1.1.1.2.2.2.2.2.2.2.2
  have hSk : S1.v_Tb_clusters = nI (hk N D) := by rw [← ek]; exact v.2.1.2.1.2.2.2.2.2.2.2.2.2.1
  obtain ⟨ans, S', T', g1, g2, g3, g4, g5, g6, g7, g8, g9⟩ := qB_ref (K := K) hK hN1 hN v hH hiv.1.2.1.2.2 a
  clear v
  rw [f0, show nI 0 = 0 from rfl, g2, g3, q_c, q_c]
  by_cases an : ans = 0
  rotate_left
  · rw [if_neg (nI_ne0 (by omega) (by omega)), if_neg (show ¬ nI ans ≤ 0 from nI_nle (by omega) (by omega))]
    exact ⟨_, _, _, _, rfl, rfl, g7.trans p1, ivA_t (g4 t hiv), g5.trans htp⟩
  rw [an, if_pos (show nI 0 = 0 from rfl), if_pos (show nI 0 ≤ 0 by decide)]
  obtain ⟨-, gl, s1, s2⟩ := g9 an
  have hk1 : S'.v_Tb_clusters = nI (hk N D) := g6.trans hSk
  have hk2 : T'.v_k = nI (hk N D) := g8.trans hTk
  have fin := ivA_t (g4 t hiv)
  unfold f_Tb_hasCluster f_Tb_hasCluster_28 f_Mo_isCluster f_Mo_isCluster_19
  by_cases b2 : b < 2
  · rw [if_pos b2, if_pos b2, q_c, q_c, if_pos rfl, if_pos rfl]
    exact ⟨_, _, _, _, rfl, rfl, g7.trans p1, fin, g5.trans htp⟩
  obtain ⟨x, x1, rfl⟩ := nI_of (x := b) (fun y => b2 (Int32.lt_trans y (by decide)))
  have x2 : 2 ≤ x := Nat.le_of_not_lt fun y => b2 (nI_lt (b := 2) y (by decide))
  rw [if_neg b2, if_neg b2, hk1, hk2, show (2 : Int32) = nI 2 from rfl, nI_add, show (1 : Int32) = nI 1 from rfl, nI_add, hGn]
  by_cases w : x < hk N D + 2
  · rw [if_neg (nI_ge w (by omega)), if_neg (nI_ge (by omega) (by omega)), q_c, if_neg (nI_nlt (by omega) (by omega)), q_c, if_neg (show ¬ nI 1 = 0 by decide), if_neg (show ¬ nI 1 = 0 by decide)]
    unfold f_Tb_goalOf f_Tb_goalOf_22
    rw [if_neg (nI_pos x1), hGn, if_neg (nI_ge (by omega) (by omega)), q_g (q_in (by omega) (by omega)), q_c, q_g (q_in (by omega) (by decide)), nI_clamp x1, s1 x x2 w, s2 x (by omega)]
    exact ⟨_, _, _, _, rfl, rfl, g7.trans p1, fin, g5.trans htp⟩
  · rw [if_pos (nI_le (by omega) x1), if_pos (nI_lt (by omega) x1), q_c, q_c, if_pos rfl, if_pos rfl]
    exact ⟨_, _, _, _, rfl, rfl, g7.trans p1, fin, g5.trans htp⟩
