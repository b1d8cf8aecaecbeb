/-! make: HERE's slots are alike on both disks. -/
theorem here_same {N m t hh s : Nat} {D E : Nat → Int32} {fks : List Nat} {z : SS} {G : CG} {S : CS} {T : MS} (h : ivA N t m D E G S T) (v : tv N m D E fks z hh G S T) (hs : s < (chI N D (sIt z) hh).length * 16 * hc D) : slq E (plS D (chI N D (sIt z) hh) s) D (plS D (chI N D (sIt z) hh) s) := by
  have hN := h.1.1.2.1
  have ho := v.2.2.2.1
  obtain ⟨g1, g2, g3, g4, g5, g6, g7, g8⟩ := here_geo hN v
  have hen : ∀ x ∈ chI N D (sIt z) hh, ent D x ≠ 0 := fun x w => (fol_nt _ _ _ _ (here_ch hN v) x w).2
  intro j hj
  obtain ⟨p1, p2, p3⟩ := plS_in ho hN g3 hs hj
  rcases h.1.2.2.2.2.2.2.1.1 with w | ⟨-, -, w⟩
  · exact w _ p2
  · refine w _ p2 ?_
    unfold shn
    exact Or.inr ⟨g3 _ p3, hen _ p3⟩
/-- the reference loads HERE -/
theorem here_load {K N m hh : Nat} {D E : Nat → Int32} {fks : List Nat} {z : SS} {G : CG} {S : CS} {T : MS} (hK : 20000 ≤ K) (hN : N ≤ 1024) (v : tv N m D E fks z hh G S T) : ∃ f g, f_Mo_loadFolder K T (nI hh) = some ((((T.u_v_chain g).u_v_links (nI (chI N D (sIt z) hh).length)).u_v_folder f).u_v_folders (nI (chI N D (sIt z) hh).length)) ∧ ∀ q, q < (chI N D (sIt z) hh).length → f q = nI ((chI N D (sIt z) hh).getD q 0) := by
  obtain ⟨g1, g2, g3, g4, g5, g6, g7, g8⟩ := here_geo hN v
  have ho := v.2.2.2.1
  obtain ⟨g, w1, w2⟩ := qM_walk (K := K) (T := T) (by omega) ho hN v.1.1.1 g8 g5 g6
  obtain ⟨f, w3, w4⟩ := qM_loadL (K := K) (ch := chI N D (sIt z) hh) g8 (chI N D (sIt z) hh).length 0 K ((T.u_v_chain g).u_v_links (nI (chI N D (sIt z) hh).length)) (Nat.zero_add _) (by omega) rfl w2 (fun q hq => absurd hq (Nat.not_lt_zero _))
  refine ⟨f, g, ?_, w4⟩
  unfold f_Mo_loadFolder
  rw [qM_beginOf v.1.1.1.1 v.1.1.1.2.2.2.2.2.2.1 hN v.1.1.2.1 v.2.2.2.2.2.1.1 v.2.2.1.1, q_c, w1, q_b]
  exact w3
/-- the class walks HERE's road -/
theorem here_road {K N m t hh : Nat} {D E : Nat → Int32} {fks : List Nat} {z : SS} {G : CG} {S : CS} {T : MS} (hK : 20000 ≤ K) (h : ivA N t m D E G S T) (v : tv N m D E fks z hh G S T) : f_Tr_firstOf K G S (nI hh) = some (nI (begI D (sIt z) hh), S) ∧ ∃ f, f_Tb_road_Edroad K G S (nI (begI D (sIt z) hh)) = some (nI (chI N D (sIt z) hh).length, S.u_w_Ed_road f) ∧ ∀ q, q < (chI N D (sIt z) hh).length → f q = nI ((chI N D (sIt z) hh).getD q 0) := by
  have hN1 := h.1.1.1
  have hN := h.1.1.2.1
  have ho := v.2.2.2.1
  obtain ⟨g1, g2, g3, g4, g5, g6, g7, g8⟩ := here_geo hN v
  obtain ⟨tt, cS⟩ := v.2.1.2.2.1
  have hH := ((agF_A hN1 hN h.1.2.2.2.2.2.2.1.1).2 ho).1
  exact ⟨qC_first cS.2.2.2.2.1.1 cS.1 cS.2.2.2.2.1.2.2.1 v.2.2.1.1, qC_road (by omega) ho hN hH v.2.1.2.1 g4 g5 g6⟩
