/-! How a run begins while the volume is not turned. -/
theorem run_start {K N t m : Nat} {D E : Nat → Int32} {G : CG} {S : CS} {T : MS} (hK : 20000 ≤ K) (h : ivA N t m D E G S T) (p0 p1 : Int32) : ∃ G1 S1 T1 f, f_Vt_run K G S p0 p1 = f_Vt_run_14 K p0 p1 (nI f) (nI (if flt N D = 1 then 0 else 1)) G1 S1 ∧ f_Mo_run K T p0 p1 = (if nI (flt N D) = 1 then f_Mo_run_35 K p0 p1 1 T1 else f_Mo_run_35 K p0 p1 0 T1) ∧ ivA N t m D E G1 S1 T1 ∧ (T1.v_thrown = 0 ∧ T1.v_turned = 0 ∧ T1.v_told = 0 ∧ lkR N D T1) ∧ S1.v_Tp_used = S.v_Tp_used ∧ f ≤ 16 ∧ S1.v_Vt_fails = 0 ∧ (∀ j, j < f → (S1.w_Vt_failAsks j = nI 0 ∨ S1.w_Vt_failAsks j = nI 1) ∧ ∃ w, w < 2 ^ 31 ∧ S1.w_Vt_failWrites j = nI w) ∧ (S1.w_Tu_block = S.w_Tu_block ∧ S1.w_Dk_bytes = S.w_Dk_bytes) ∧ (flt N D = 0 → ∃ fks z hh, trE N D = .ok (fks, z) ∧ tv N m D E fks z hh G1 S1 T1) := by
  obtain ⟨f, f1, f2, f3, f4⟩ := h.1.2.2.2.2.1
  have h0 : ivA N t m D E G (S.u_v_Vt_fails 0) (T.u_v_told 0) := ⟨⟨h.1.1, h.1.2.1, h.1.2.2.1, h.1.2.2.2.1, ⟨0, by omega, rfl, rfl, fun j hj => by omega⟩, h.1.2.2.2.2.2⟩, h.2.1, h.2.2.1, h.2.2.2⟩
  obtain ⟨G1, S1, T1, c1, m1, p1', p2, p3, p4, hiv, hco, hcl, p5⟩ := preA hK h0
  have hR1 : lkR N D T1 := by
    obtain ⟨T2, e1, e2, e3⟩ := ivA_lookM hK (ivA_thr h0 0)
    rw [m1] at e1
    rw [Option.some.inj e1]
    exact e3
  refine ⟨G1, S1, T1, f, ?_, ?_, hiv, ⟨p1', p2, (congrArg (fun x => x.1.2.2.2.2.2.2.2) hcl), hR1⟩, ((coV_v_Tp_used hco).trans rfl), f1, (congrArg (fun x => x.1.2.2.1) hco), fun j hj => ?_, ⟨congrArg (fun x => x.2.2.2.2.2.2.2.2.1) hco, congrArg (fun x => x.1.2.2.2.2.2.2.1) hco⟩, p5⟩
  · unfold f_Vt_run
    rw [q_l, q_l, look_n c1, f2]
  · unfold f_Mo_run f_Mo_run_34
    have m1' : f_Mo_look K ((T.u_v_thrown 0).u_v_told 0) = some T1 := m1
    rw [q_l, q_l, m1', q_b, p2, if_pos rfl, p3]
  · have e1 : S1.w_Vt_failAsks = S.w_Vt_failAsks := congrArg (fun x => x.1.1) hco
    have e2 : S1.w_Vt_failWrites = S.w_Vt_failWrites := congrArg (fun x => x.1.2.1) hco
    rw [e1, e2]
    exact f4 j hj
theorem b01_1 : (1 : Int32) = b01 True := by rw [b01_t trivial]; rfl
theorem b01_F0 : (0 : Int32) = b01 False := by rw [b01_f not_false]; rfl
/-- no volume, or no such thing to ask for -/
theorem run_throws {K N t m : Nat} {D E : Nat → Int32} {G : CG} {S : CS} {T : MS} (hK : 20000 ≤ K) (h : ivA N t m D E G S T) (p0 p1 : Int32) (hx : flt N D = 1 ∨ ¬ (p0 = 0 ∨ p0 = 1)) : ∃ e y G' S' T', f_Vt_run K G S p0 p1 = some (.error e, G', S') ∧ f_Mo_run K T p0 p1 = some (y, T') ∧ e ≤ 1 ∧ T'.v_thrown = nI (codM e) ∧ ivA N (t + 1) m D E G' S' T' ∧ S'.v_Tp_used = S.v_Tp_used ∧ (S'.w_Tu_block = S.w_Tu_block ∧ S'.w_Dk_bytes = S.w_Dk_bytes) := by
  obtain ⟨G1, S1, T1, f, a1, a2, a3, ⟨a4, a5, a6, a7⟩, a8, a9, a10, a11, a12, a13⟩ := run_start hK h p0 p1
  have h6 := flt_le N D
  rw [a1, a2]
  unfold f_Vt_run_14
  by_cases g : flt N D = 1
  · rw [g, if_pos rfl, if_pos (show nI 0 = 0 from rfl), if_pos (show nI 1 = 1 from rfl)]
    refine ⟨1, 0, G1.made 1 6, S1, T1.u_v_thrown 1, rfl, ?_, by decide, rfl, ivA_made (ivA_thr a3 1), a8, a12⟩
    unfold f_Mo_run_35
    rw [b01_1, qM_fails T1 True (b01 True) a4 (by rw [b01_t trivial]; decide), q_c, cif_t trivial, if_neg (by rw [b01_t trivial]; decide)]
    rfl
  · have hn := hx.resolve_left g
    have g1 : ¬ nI (flt N D) = 1 := fun y => g ((nI_eq (b := 1) (by omega) (by decide)).mp y)
    rw [if_neg g, if_neg (show ¬ nI 1 = 0 by decide), if_neg g1, if_neg (fun y => hn (Or.inl y)), if_neg (fun y => hn (Or.inr y))]
    refine ⟨0, 0, G1.made 1 6, S1, T1.u_v_thrown 2, rfl, ?_, by decide, rfl, ivA_made (ivA_thr a3 2), a8, a12⟩
    have h57 : f_Mo_run_57 K p0 p1 1 T1 = some (0, T1.u_v_thrown 2) := by
      unfold f_Mo_run_57
      rw [b01_1, qM_fails T1 True 2 a4 (by decide), q_c, cif_t trivial, if_neg (by rw [b01_t trivial]; decide)]
      rfl
    unfold f_Mo_run_35 f_Mo_run_52
    have hf0 : f_Mo_fails K T1 0 1 = some (0, T1) := by
      have := qM_fails (K := K) T1 False 1 a4 (by decide)
      rw [← b01_F0, cif_f not_false] at this
      exact this
    rw [hf0, q_c, if_pos rfl, h57]
    by_cases c : p0 < 0
    · rw [if_pos c]
    · rw [if_neg c, if_neg]
      intro c2
      have c3 := Int32.le_iff_toInt_le.mp c2
      have c4 : ¬ p0.toInt < (0 : Int32).toInt := fun y => c (Int32.lt_iff_toInt_lt.mpr y)
      have e1 : (1 : Int32).toInt = 1 := by decide
      have e0 : (0 : Int32).toInt = 0 := by decide
      rw [e1] at c3
      rw [e0] at c4
      by_cases z : p0.toInt = 0
      · exact hn (Or.inl (Int32.toInt_inj.mp (z.trans e0.symm)))
      · exact hn (Or.inr (Int32.toInt_inj.mp ((show p0.toInt = 1 by omega).trans e1.symm)))
