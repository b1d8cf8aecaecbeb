/-! A run while the volume is not turned. -/
abbrev ivT (K N t m : Nat) (D E : Nat → Int32) (G : CG) (S : CS) (T : MS) : Prop := ((256 ≤ N ∧ N ≤ 1024 ∧ N % 2 = 0) ∧ (T.v_n = nI N ∧ S.v_Dk_sectors = nI N ∧ S.v_Pl_blocks = nI (N / 2)) ∧ (T.v_disk = D ∧ S.w_Dk_bytes = E) ∧ iv_tape S T ∧ flR S T ∧ (T.v_turned = 1 ∧ S.v_Vt_hasRun = 1 ∧ T.v_ran = 1) ∧ (sec27 D ∧ capOk N D m ∧ m ≤ 4000) ∧ T.v_parent 0 = 0) ∧ (gOk N G ∧ gLim t G) ∧ lkR N D T ∧ byt S ∧ ∃ fks z A H B P g0 r to gl hh T0 T1, rP K N m hh D fks z A H (hk N D) B P g0 r to gl T.v_fresh T0 T1 ∧ uM T.v_used (usd N D (sIt z) A H gl (rml A H (fxd A P r g0) (ent D) gl (hk N D)) (bdN N fks D (sIt z) A H) (fxd A P r g0)) ∧ tnU N D fks (sIt z) A H (hk N D) B P g0 r to gl (ent D) T ∧ dTh N D fks z A H (hk N D) B P g0 r gl E ∧ arr T.v_record (recL N D (sIt z) A H gl (rml A H (fxd A P r g0) (ent D) gl (hk N D))) ∧ nmOk (sIt z)
theorem ref_run {K d : Nat} {T1 : MS} {p1 : Int32} (hd : d = 0 ∨ d = 1) (h1 : T1.v_thrown = 0) (h2 : T1.v_turned = 0) : f_Mo_run_35 K (nI d) p1 0 T1 = if d = 0 then (lf_c (f_Mo_refusal K T1 p1) fun r_17 S_17 => if r_17 = 0 then ((f_Mo_turn K S_17).bind fun S_19 => f_Mo_run_113 K r_17 S_19) else (f_Mo_run_113 K r_17 S_17)) else some (0, (T1.u_v_ran 1).u_v_here 0) := by
  have hf0 : ∀ c : Int32, ¬ c = 0 → f_Mo_fails K T1 0 c = some (0, T1) := fun c hc0 => by
    have := qM_fails (K := K) T1 False c h1 hc0
    rw [← b01_F0, cif_f not_false] at this
    exact this
  unfold f_Mo_run_35 f_Mo_run_57 f_Mo_run_88
  rw [hf0 1 (by decide), q_c, if_pos rfl, hf0 2 (by decide), q_c, if_pos rfl, h2, if_pos rfl, if_pos rfl]
  rcases hd with e | e
  · rw [e, if_neg (show ¬ nI 0 < 0 by decide), if_pos (show nI 0 ≤ 1 by decide), if_pos (show nI 0 = 0 from rfl), if_pos rfl]
  · rw [e, if_neg (show ¬ nI 1 < 0 by decide), if_pos (show nI 1 ≤ 1 by decide), if_neg (show ¬ nI 1 = 0 by decide), if_neg (by decide)]
    rfl
theorem cls_run {K d f : Nat} {G1 : CG} {S1 : CS} {p1 : Int32} (hd : d = 0 ∨ d = 1) : f_Vt_run_14 K (nI d) p1 (nI f) (nI 1) G1 S1 = f_Vt_run_74 K K (nI d) (nI f) p1 (nI 0) G1 S1 := by
  unfold f_Vt_run_14 f_Vt_run_52 f_Vt_run_69
  rcases hd with e | e
  · rw [e, if_neg (show ¬ nI 1 = 0 by decide), if_pos (show nI 0 = 0 from rfl), if_neg (show ¬ nI 1 = 2 by decide)]
    rfl
  · rw [e, if_neg (show ¬ nI 1 = 0 by decide), if_neg (show ¬ nI 1 = 0 by decide), if_pos (show nI 1 = 1 from rfl), if_neg (show ¬ nI 1 = 2 by decide)]
    rfl
/-- refused -/
theorem run_ref {K N t m d f an : Nat} {D E : Nat → Int32} {G1 : CG} {S1 : CS} {T1 T2 : MS} {p1 : Int32} (hK : 20000 ≤ K) (hd : d = 0 ∨ d = 1) (hiv : ivA N t m D E G1 S1 T1) (hiv2 : baA N m D E S1 T2 ∧ (T2.v_looked = 0 ∨ lkR N D T2)) (hR : lkR N D T1) (h1 : T1.v_thrown = 0 ∧ T1.v_turned = 0 ∧ T1.v_told = 0) (h2 : T2.v_thrown = 0 ∧ T2.v_told = 0) (hf : f ≤ 16 ∧ S1.v_Vt_fails = 0) (hw : ∀ j, j < f → (S1.w_Vt_failAsks j = nI 0 ∨ S1.w_Vt_failAsks j = nI 1) ∧ ∃ w, w < 2 ^ 31 ∧ S1.w_Vt_failWrites j = nI w) (hbt : byt S1) (hr : rR K N m an D p1 T1) (hT : f_Mo_refusal K T1 p1 = some (nI an, T2)) : ∃ r G' S' T' E', f_Vt_run_14 K (nI d) p1 (nI f) (nI 1) G1 S1 = some (.ok r, G', S') ∧ f_Mo_run_35 K (nI d) p1 0 T1 = some (r, T') ∧ T'.v_thrown = nI 0 ∧ S'.v_Tp_used = S1.v_Tp_used ∧ byt S' ∧ ivA N t m D E' G' S' T' := by
  have hU : dU N D E := agF_dU hiv.1.2.2.2.2.2.2.1.1
  have hb := hiv.1
  have ho := hr.1.1
  obtain ⟨G', S', p', a1, a2, a3⟩ := cl_loopR (K := K) (f := f) (S0 := S1) hK hr hd hf.1 hw hU f 0 K G1 S1 (by omega) (by omega) rfl ⟨hiv.2.1, hb.2.2.1.2, hb.2.1.2.1, hb.2.1.2.2, hbt⟩
  rw [cls_run hd, ref_run hd h1.1 h1.2.1, a1]
  have hby : byt (((S'.u_v_Vt_hasRun 1).u_v_Vt_stale 1).u_v_Vt_here 0) := a3.2.2.2.2.2
  have htp : (((S'.u_v_Vt_hasRun 1).u_v_Vt_stale 1).u_v_Vt_here 0).v_Tp_used = S1.v_Tp_used := congrArg (fun x => x.2.2.2.2.1) a2
  rcases hd with e | e
  · subst e
    rw [if_pos rfl, if_pos rfl, hT, q_c, if_neg (nI_ne0 hr.2.1.1 (Nat.lt_of_le_of_lt hr.2.1.2 (by decide)))]
    exact ⟨_, _, _, _, E, rfl, rfl, h2.1, htp, hby, ivA_ran hiv2.1 hiv2.2 ⟨hf.2, h2.2⟩ a2 a3 ho hU⟩
  · subst e
    rw [if_neg (by decide), if_neg (by decide)]
    exact ⟨_, _, _, _, E, rfl, rfl, h1.1, htp, hby, ivA_ran hb (Or.inr hR) ⟨hf.2, h1.2.2⟩ a2 a3 ho hU⟩
