/-! A run of a volume that is turned. -/
theorem tape_R {S S' : CS} {T : MS} (h : coR S' = coR S) (x : iv_tape S T) : iv_tape S' T := by
  obtain ⟨k, t1, t2, t3, t4, t5, t6⟩ := x
  have e1 : S'.v_Tp_used = S.v_Tp_used := congrArg (fun x => x.2.2.2.2.1) h
  have e2 : S'.w_Tp_bytes = S.w_Tp_bytes := congrArg (fun x => x.2.2.1) h
  have e3 : S'.w_Tp_ready = S.w_Tp_ready := congrArg (fun x => x.2.2.2.1) h
  exact ⟨k, t1, e1.trans t2, t3, fun j hj => by rw [e2]; exact t4 j hj, fun j hj => by rw [e3]; exact t5 j hj, fun j hj => by rw [e3]; exact t6 j hj⟩
theorem p01_of {p0 : Int32} (c : ¬ p0 < 0) (c2 : p0 ≤ 1) : p0 = 0 ∨ p0 = 1 := by
  have c3 := Int32.le_iff_toInt_le.mp c2
  have c4 : ¬ p0.toInt < (0 : Int32).toInt := fun y => c (Int32.lt_iff_toInt_lt.mpr y)
  have e1 : (1 : Int32).toInt = 1 := by decide
  have e0 : (0 : Int32).toInt = 0 := by decide
  rw [e1] at c3
  rw [e0] at c4
  by_cases z : p0.toInt = 0
  · exact Or.inl (Int32.toInt_inj.mp (z.trans e0.symm))
  · exact Or.inr (Int32.toInt_inj.mp ((show p0.toInt = 1 by omega).trans e1.symm))
theorem opB_run {K N t m : Nat} {D E : Nat → Int32} {G : CG} {S : CS} {T : MS} (hK : 600000 ≤ K) (h : ivB K N t m D E G S T) (p0 p1 : Int32) : rsl codM (fun e => e ≤ 1) (f_Vt_run K G S p0 p1) (f_Mo_run K T p0 p1) (fun G' S' T' => S'.v_Tp_used = S.v_Tp_used ∧ byt S' ∧ ∃ E', ivA N (t + 1) m D E' G' S' T' ∨ ivB K N (t + 1) m D E' G' S' T') := by
  have hiv := h
  obtain ⟨⟨⟨b1, b2, b3, b4, ⟨f, f1, f2, f3, f4⟩, b6, b7, b8⟩, ⟨c1, c2⟩, hR, hby, fks, z, A, H, B, P, g0, r, to, gl, hh0, T0, T1, rp, x1, x2, x3, x4, x5⟩, he⟩ := h
  have hB0 : B = N / 2 := rp.1.2.1.2.2.2
  have l1 : f_Vt_look K G (S.u_v_Vt_fails 0) = some (2, G, S.u_v_Vt_fails 0) := cl_lookB rp.1 x3 c1.1 b3.2
  obtain ⟨Tx, hTx⟩ : ∃ Tx, (T.u_v_thrown 0).u_v_told 0 = Tx := ⟨_, rfl⟩
  have l2 : f_Mo_look K Tx = some Tx := by
    unfold f_Mo_look
    rw [if_neg (show ¬ Tx.v_looked = 0 by rw [← hTx, show ((T.u_v_thrown 0).u_v_told 0).v_looked = T.v_looked from rfl, hR.1]; decide)]
  have htu : Tx.v_turned = 1 := by rw [← hTx]; exact b6.1
  have hth : Tx.v_thrown = 0 := by rw [← hTx]; rfl
  have hf0 : ∀ c : Int32, ¬ c = 0 → f_Mo_fails K Tx 0 c = some (0, Tx) := fun c hc0 => by
    have := qM_fails (K := K) Tx False c hth hc0
    rw [← b01_F0, cif_f not_false] at this
    exact this
  unfold f_Vt_run f_Mo_run f_Mo_run_34
  rw [q_l, q_l, lkn l1, q_l, q_l, hTx, l2, q_b, htu, if_neg (show ¬ (1 : Int32) = 0 by decide), f2]
  unfold f_Vt_run_14 f_Mo_run_35 f_Mo_run_52
  rw [hf0 1 (by decide), q_c, if_pos rfl, if_neg (show ¬ (2 : Int32) = 0 by decide)]
  by_cases hx : p0 = 0 ∨ p0 = 1
  · obtain ⟨d, hd, rfl⟩ : ∃ d, (d = 0 ∨ d = 1) ∧ p0 = nI d := by
      rcases hx with w | w
      · exact ⟨0, Or.inl rfl, w⟩
      · exact ⟨1, Or.inr rfl, w⟩
    have h52 : f_Vt_run_52 K (nI d) p1 (nI f) 2 G (S.u_v_Vt_fails 0) = f_Vt_run_74 K K (nI d) (nI f) (nI P) (nI 0) G (S.u_v_Vt_fails 0) := by
      unfold f_Vt_run_52 f_Vt_run_69
      rw [if_pos rfl, cl_gsz (S := S.u_v_Vt_fails 0) rp.1 x3 c1.1 b3.2, q_c]
      rfl
    have hcl : (if nI d = 0 then f_Vt_run_52 K (nI d) p1 (nI f) 2 G (S.u_v_Vt_fails 0) else if nI d = 1 then f_Vt_run_52 K (nI d) p1 (nI f) 2 G (S.u_v_Vt_fails 0) else some (.error 0, G.made 1 6, S.u_v_Vt_fails 0)) = f_Vt_run_74 K K (nI d) (nI f) (nI P) (nI 0) G (S.u_v_Vt_fails 0) := by
      rcases hx with w | w
      · rw [if_pos w, h52]
      · by_cases w2 : nI d = 0
        · rw [if_pos w2, h52]
        · rw [if_neg w2, if_pos w, h52]
    rw [hcl]
    obtain ⟨E', G', S', p', a1, a2, a3, a4⟩ := cl_loop (K := K) (t := t) (S0 := S.u_v_Vt_fails 0) (d := d) (Nat.le_trans (by decide) hK) rp hd f1 f4 f 0 K E G (S.u_v_Vt_fails 0) (Nat.zero_add f) (Nat.lt_of_le_of_lt f1 (Nat.lt_of_lt_of_le (by decide) hK)) rfl (Or.inr (Or.inr x3)) ⟨⟨c1, c2⟩, b3.2, b2.2.1, by rw [hB0]; exact b2.2.2, hby⟩
    rw [a1]
    have hby' : byt (((S'.u_v_Vt_hasRun 1).u_v_Vt_stale 1).u_v_Vt_here 0) := a3.2.2.2.2.2
    have htp : (((S'.u_v_Vt_hasRun 1).u_v_Vt_stale 1).u_v_Vt_here 0).v_Tp_used = S.v_Tp_used := (congrArg (fun x => x.2.2.2.2.1) a2).trans rfl
    have hfa : S'.v_Vt_fails = 0 := (congrArg (fun x => x.1.2.2.1) a2).trans rfl
    rw [hB0] at a3
    have htape : iv_tape S' T := tape_R (S := S.u_v_Vt_fails 0) a2 b4
    unfold f_Mo_run_57 f_Mo_run_88
    rw [hf0 2 (by decide), q_c, if_pos rfl, htu, if_neg (show ¬ (1 : Int32) = 0 by decide)]
    rcases hd with e | e
    · subst e
      rw [if_pos rfl] at a4
      rw [if_neg (show ¬ nI 0 < 0 by decide), if_pos (show nI 0 ≤ 1 by decide), if_neg (show ¬ nI 0 = 1 by decide), if_neg (show ¬ (1 : Int32) = 0 by decide)]
      unfold f_Mo_run_113
      rw [q_l, q_l]
      refine Or.inl ⟨0, _, _, _, rfl, rfl, hth, htp, hby', E', Or.inr (ivB_t ⟨?_, heB_0 rfl rfl⟩)⟩
      rw [← hTx]
      exact ⟨⟨b1, ⟨b2.1, a3.2.2.1, a3.2.2.2.1⟩, ⟨b3.1, a3.2.1⟩, htape, ⟨0, Nat.zero_le _, hfa, rfl, fun j hj => absurd hj (Nat.not_lt_zero _)⟩, ⟨b6.1, rfl, rfl⟩, b7, b8⟩, a3.1, hR, hby', fks, z, A, H, B, P, g0, r, to, gl, hh0, T0, T1, rp, x1, x2, a4, x4, x5⟩
    · subst e
      rw [if_neg (show ¬ (1 : Nat) = 0 by decide)] at a4
      rw [if_neg (show ¬ nI 1 < 0 by decide), if_pos (show nI 1 ≤ 1 by decide), if_pos (show nI 1 = 1 from rfl), q_l]
      unfold f_Mo_run_113
      rw [q_l, q_l]
      refine Or.inl ⟨0, _, _, _, rfl, rfl, hth, htp, hby', E', Or.inl (ivA_t ?_)⟩
      rw [← hTx]
      refine ⟨⟨b1, ⟨b2.1, a3.2.2.1, a3.2.2.2.1⟩, ⟨b3.1, a3.2.1⟩, htape, ⟨0, Nat.zero_le _, hfa, rfl, fun j hj => absurd hj (Nat.not_lt_zero _)⟩, ⟨rfl, rfl, Or.inr rfl⟩, ⟨Or.inr ⟨rfl, rp.1.1.1, a4⟩, b7⟩, fun fks z e => ⟨0, ?_, Or.inl rfl, rfl, rfl⟩, b8⟩, a3.1, Or.inr hR, Or.inl rfl⟩
      obtain ⟨h, h1, -⟩ := he fks z e
      exact Nat.lt_of_le_of_lt (Nat.zero_le _) h1
  · rw [if_neg (fun y => hx (Or.inl y)), if_neg (fun y => hx (Or.inr y))]
    have h57 : f_Mo_run_57 K p0 p1 1 Tx = some (0, Tx.u_v_thrown 2) := by
      unfold f_Mo_run_57
      rw [b01_1, qM_fails Tx True 2 hth (by decide), q_c, cif_t trivial, if_neg (by rw [b01_t trivial]; decide)]
      rfl
    have hR0 : (if p0 < 0 then f_Mo_run_57 K p0 p1 1 Tx else if p0 ≤ 1 then f_Mo_run_57 K p0 p1 0 Tx else f_Mo_run_57 K p0 p1 1 Tx) = some (0, Tx.u_v_thrown 2) := by
      rw [h57]
      by_cases c : p0 < 0
      · rw [if_pos c]
      · rw [if_neg c, if_neg]
        exact fun c2 => hx (p01_of c c2)
    rw [hR0]
    refine Or.inr ⟨0, 0, _, _, _, rfl, rfl, by decide, rfl, rfl, hby, E, Or.inr (ivB_made ⟨?_, by rw [← hTx]; exact he⟩)⟩
    rw [← hTx]
    exact ⟨⟨b1, b2, b3, b4, ⟨0, Nat.zero_le _, rfl, rfl, fun j hj => absurd hj (Nat.not_lt_zero _)⟩, b6, b7, b8⟩, ⟨c1, c2⟩, hR, hby, fks, z, A, H, B, P, g0, r, to, gl, hh0, T0, T1, rp, x1, x2, x3, x4, x5⟩
