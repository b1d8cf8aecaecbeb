/-! The call run, while the volume is not turned. -/
theorem baA_R {N m : Nat} {D E : Nat → Int32} {S S' : CS} {T : MS} (h : coR S' = coR S) (hb : S'.w_Dk_bytes = S.w_Dk_bytes) (x : baA N m D E S' T) : baA N m D E S T := by
  obtain ⟨b1, b2, b3, ⟨k, t1, t2, t3, t4, t5, t6⟩, ⟨f, f1, f2, f3, f4⟩, b6, b7, b8, b9⟩ := x
  have e1 : S'.v_Tp_used = S.v_Tp_used := congrArg (fun x => x.2.2.2.2.1) h
  have e2 : S'.w_Tp_bytes = S.w_Tp_bytes := congrArg (fun x => x.2.2.1) h
  have e3 : S'.w_Tp_ready = S.w_Tp_ready := congrArg (fun x => x.2.2.2.1) h
  have e4 : S'.v_Vt_fails = S.v_Vt_fails := congrArg (fun x => x.1.2.2.1) h
  have e5 : S'.w_Vt_failAsks = S.w_Vt_failAsks := congrArg (fun x => x.1.1) h
  have e6 : S'.w_Vt_failWrites = S.w_Vt_failWrites := congrArg (fun x => x.1.2.1) h
  have e7 : S'.v_Vt_here = S.v_Vt_here := congrArg (fun x => x.1.2.2.2.1) h
  have e8 : S'.v_Vt_hasRun = S.v_Vt_hasRun := congrArg (fun x => x.1.2.2.2.2.1) h
  have e9 : S'.v_Dk_sectors = S.v_Dk_sectors := congrArg (fun x => x.2.1) h
  have e10 : S'.v_Pl_blocks = S.v_Pl_blocks := congrArg (fun x => x.2.2.2.2.2) h
  refine ⟨b1, ⟨b2.1, e9.symm.trans b2.2.1, e10.symm.trans b2.2.2⟩, ⟨b3.1, hb.symm.trans b3.2⟩, ⟨k, t1, e1.symm.trans t2, t3, fun j hj => by rw [← e2]; exact t4 j hj, fun j hj => by rw [← e3]; exact t5 j hj, fun j hj => by rw [← e3]; exact t6 j hj⟩, ⟨f, f1, e4.symm.trans f2, f3, fun j hj => by rw [← e5, ← e6]; exact f4 j hj⟩, ⟨b6.1, e8.symm.trans b6.2.1, b6.2.2⟩, b7, fun fks z e => ?_, b9⟩
  rw [← e7]
  exact b8 fks z e
theorem opA_run {K N t m : Nat} {D E : Nat → Int32} {G : CG} {S : CS} {T : MS} (hK : 600000 ≤ K) (h : ivA N t m D E G S T) (hbt : byt S) (p0 p1 : Int32) : rsl codM (fun e => e ≤ 1) (f_Vt_run K G S p0 p1) (f_Mo_run K T p0 p1) (fun G' S' T' => S'.v_Tp_used = S.v_Tp_used ∧ byt S' ∧ ∃ E', ivA N (t + 1) m D E' G' S' T' ∨ (ivT K N (t + 1) m D E' G' S' T' ∧ S'.v_Vt_here = 0 ∧ T'.v_here = 0)) := by
  by_cases hx : flt N D = 1 ∨ ¬ (p0 = 0 ∨ p0 = 1)
  · obtain ⟨e, y, G', S', T', a1, a2, a3, a4, a5, a6, a7⟩ := run_throws (K := K) (by omega) h p0 p1 hx
    exact Or.inr ⟨e, y, G', S', T', a1, a2, a3, a4, a6, ⟨fun q => by rw [a7.2]; exact hbt.1 q, fun q => by rw [a7.1]; exact hbt.2 q⟩, E, Or.inl a5⟩
  have hf1 : flt N D ≠ 1 := fun y => hx (Or.inl y)
  have hd0 : ∃ d, (d = 0 ∨ d = 1) ∧ p0 = nI d := by
    apply Classical.byContradiction
    intro y
    apply hx
    refine Or.inr fun w => y ?_
    rcases w with w | w
    · exact ⟨0, Or.inl rfl, w⟩
    · exact ⟨1, Or.inr rfl, w⟩
  obtain ⟨d, hd, rfl⟩ := hd0
  obtain ⟨G1, S1, T1, f, a1, a2, a3, ⟨a4, a5, a6, a7⟩, a8, a9, a10, a11, a12, a13⟩ := run_start (K := K) (by omega) h (nI d) p1
  have h6 := flt_le N D
  have hb1 : byt S1 := ⟨fun q => by rw [a12.2]; exact hbt.1 q, fun q => by rw [a12.1]; exact hbt.2 q⟩
  have g1 : ¬ nI (flt N D) = 1 := fun y => hf1 ((nI_eq (b := 1) (by omega) (by decide)).mp y)
  rw [a1, a2, if_neg hf1, if_neg g1]
  have hb := a3.1
  have ho := flt_hd hf1
  have fin : (∃ r G' S' T' E', f_Vt_run_14 K (nI d) p1 (nI f) (nI 1) G1 S1 = some (.ok r, G', S') ∧ f_Mo_run_35 K (nI d) p1 0 T1 = some (r, T') ∧ T'.v_thrown = nI 0 ∧ S'.v_Tp_used = S1.v_Tp_used ∧ byt S' ∧ (ivA N t m D E' G' S' T' ∨ (ivT K N t m D E' G' S' T' ∧ S'.v_Vt_here = 0 ∧ T'.v_here = 0))) → rsl codM (fun e => e ≤ 1) (f_Vt_run_14 K (nI d) p1 (nI f) (nI 1) G1 S1) (f_Mo_run_35 K (nI d) p1 0 T1) (fun G' S' T' => S'.v_Tp_used = S.v_Tp_used ∧ byt S' ∧ ∃ E', ivA N (t + 1) m D E' G' S' T' ∨ (ivT K N (t + 1) m D E' G' S' T' ∧ S'.v_Vt_here = 0 ∧ T'.v_here = 0)) := fun ⟨r, G', S', T', E', c1, c2, c3, c4, c5, c6⟩ => by
    refine Or.inl ⟨r, G', S', T', c1, c2, c3, c4.trans a8, c5, E', ?_⟩
    rcases c6 with y | ⟨y, y2⟩
    · exact Or.inl (ivA_t y)
    · exact Or.inr ⟨⟨y.1, ⟨y.2.1.1, gLim_le y.2.1.2 (by omega)⟩, y.2.2⟩, y2⟩
  apply fin
  by_cases f0 : flt N D = 0
  · obtain ⟨fks, z, hh, etr, v⟩ := a13 f0
    have hag := agF_A hb.1.1 hb.1.2.1 hb.2.2.2.2.2.2.1.1
    obtain ⟨ans, S2, T2, x1, x2, x3, x4, -, -, x5, -, ⟨x6, x7, x8, x9⟩, x10⟩ := qB_refX (K := K) (by omega) hb.1.1 hb.1.2.1 v (hag.2 ho).1 v.2.1.2.1 v.2.1.2.2.1 (hag.2 ho).1 hb.2.1.2.2 etr hb.2.2.2.2.2.2.2.2 p1
    have hiv2 := x4 t a3
    have hb2 := baA_R x6 x7 hiv2.1
    have ht2 : T2.v_told = 0 := by
      obtain ⟨f', q1, q2, q3, -⟩ := hb2.2.2.2.2.1
      rw [a10] at q2
      rw [q3, ← q2]
    by_cases an0 : ans = 0
    · obtain ⟨P, hP, eP, x11, x12⟩ := x10 an0
      rw [eP]
      rw [eP, an0] at x3
      obtain ⟨r, G', S', T', E', c⟩ := run_pln (K := K) hK hd a3 ⟨hb2, hiv2.2.2.1⟩ a7 ⟨a4, a5, a6⟩ ⟨x5.trans a4, ht2⟩ ⟨a9, a10⟩ a11 hb1 v etr x11 x12 x3
      exact ⟨r, G', S', T', E', c⟩
    · have hr : rR K N m ans D p1 T1 := ⟨⟨ho, ⟨hb.1.1, hb.1.2.1⟩, hb.2.2.2.2.2.2.1.2⟩, ⟨Nat.one_le_iff_ne_zero.mpr an0, x1⟩, Or.inr ⟨fks, z, hh, T2, etr, ⟨E, G1, S1, v, (hag.2 ho).1⟩, hb.2.2.2.2.2.2.2.2, x3⟩⟩
      obtain ⟨r, G', S', T', E', c1, c2, c3, c4, c5, c6⟩ := run_ref (K := K) (by omega) hd a3 ⟨hb2, hiv2.2.2.1⟩ a7 ⟨a4, a5, a6⟩ ⟨x5.trans a4, ht2⟩ ⟨a9, a10⟩ a11 hb1 hr x3
      exact ⟨r, G', S', T', E', c1, c2, c3, c4, c5, Or.inl c6⟩
  · have hr : rR K N m (flt N D) D p1 T1 := ⟨⟨ho, ⟨hb.1.1, hb.1.2.1⟩, hb.2.2.2.2.2.2.1.2⟩, ⟨Nat.one_le_iff_ne_zero.mpr f0, by omega⟩, Or.inl (flt_err f0)⟩
    have hT := (ref_flt (K := K) (E := E) (G := G1) (S := S1) (T := T1) a7 f0 p1).2
    obtain ⟨r, G', S', T', E', c1, c2, c3, c4, c5, c6⟩ := run_ref (K := K) (by omega) hd a3 ⟨hb, Or.inr a7⟩ a7 ⟨a4, a5, a6⟩ ⟨a4, a6⟩ ⟨a9, a10⟩ a11 hb1 hr hT
    exact ⟨r, G', S', T', E', c1, c2, c3, c4, c5, Or.inl c6⟩
