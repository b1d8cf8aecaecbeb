/-! A run whose plan is not refused. -/
theorem run_pln {K N t m d f P hh : Nat} {D E : Nat → Int32} {fks : List Nat} {z : SS} {G1 Gx : CG} {S1 Sx : CS} {T1 T2 : MS} (hK : 600000 ≤ K) (hd : d = 0 ∨ d = 1) (hiv : ivA N t m D E G1 S1 T1) (hiv2 : baA N m D E S1 T2 ∧ (T2.v_looked = 0 ∨ lkR N D T2)) (hR : lkR N D T1) (h1 : T1.v_thrown = 0 ∧ T1.v_turned = 0 ∧ T1.v_told = 0) (h2 : T2.v_thrown = 0 ∧ T2.v_told = 0) (hf : f ≤ 16 ∧ S1.v_Vt_fails = 0) (hw : ∀ j, j < f → (S1.w_Vt_failAsks j = nI 0 ∨ S1.w_Vt_failAsks j = nI 1) ∧ ∃ w, w < 2 ^ 31 ∧ S1.w_Vt_failWrites j = nI w) (hbt : byt S1) (v : tv N m D E fks z hh G1 S1 T1) (etr : trE N D = .ok (fks, z)) (x : plX N P D fks (sIt z) Gx Sx T2) (hlab : T2.v_label = lbI (sLb z) ∧ T2.v_looked = T1.v_looked ∧ nmOk (sIt z)) (hT : f_Mo_refusal K T1 (nI P) = some (0, T2)) : ∃ r G' S' T' E', f_Vt_run_14 K (nI d) (nI P) (nI f) (nI 1) G1 S1 = some (.ok r, G', S') ∧ f_Mo_run_35 K (nI d) (nI P) 0 T1 = some (r, T') ∧ T'.v_thrown = nI 0 ∧ S'.v_Tp_used = S1.v_Tp_used ∧ byt S' ∧ (ivA N t m D E' G' S' T' ∨ (ivT K N t m D E' G' S' T' ∧ S'.v_Vt_here = 0 ∧ T'.v_here = 0)) := by
  have hb := hiv.1
  have hU : dU N D E := agF_dU hb.2.2.2.2.2.2.1.1
  have ho : hdOk N D := v.2.2.2.1
  have hag := agF_A hb.1.1 hb.1.2.1 hb.2.2.2.2.2.2.1.1
  obtain ⟨A, H, B, g0, r, to, gl, F, U, n, R, y1, y2, y3, y4, y5, y6, y7, y8, y9⟩ := plX_turn (K := K) hK x hlab.1 etr v hb.1.1 hb.1.2.1 hb.1.2.2 hb.2.2.2.2.2.2.1.2.1
  have hrp : rP K N m hh D fks z A H (hk N D) B P g0 r to gl F T1 T2 := ⟨y1, y2, y3, hb.2.2.2.2.2.2.1.2.2.1, hb.2.2.2.2.2.2.1.2.2.2, y7, y6, ⟨E, G1, S1, v, (hag.2 ho).1⟩, hb.2.2.2.2.2.2.2.2, hT⟩
  have hB0 : B = N / 2 := y1.2.1.2.2.2
  obtain ⟨E', G', S', p', a1, a2, a3, a4⟩ := cl_loop (K := K) (t := t) (S0 := S1) (d := d) (by omega) hrp hd hf.1 hw f 0 K E G1 S1 (by omega) (by omega) rfl (Or.inl hU) ⟨hiv.2.1, hb.2.2.1.2, hb.2.1.2.1, by rw [hB0]; exact hb.2.1.2.2, hbt⟩
  rw [cls_run hd, ref_run hd h1.1 h1.2.1, a1]
  have hby : byt (((S'.u_v_Vt_hasRun 1).u_v_Vt_stale 1).u_v_Vt_here 0) := a3.2.2.2.2.2
  have htp : (((S'.u_v_Vt_hasRun 1).u_v_Vt_stale 1).u_v_Vt_here 0).v_Tp_used = S1.v_Tp_used := congrArg (fun x => x.2.2.2.2.1) a2
  rw [hB0] at a3
  rcases hd with e | e
  · subst e
    rw [if_pos rfl] at a4
    rw [if_pos rfl, hT, q_c, if_pos rfl, y5, q_b]
    refine ⟨_, _, _, ((((qS T2 F U n R).u_v_turned 1).u_v_ran 1).u_v_here 0), E', rfl, rfl, h2.1, htp, hby, Or.inr ⟨?_, rfl, rfl⟩⟩
    obtain ⟨b1, b2, b3, ⟨k, t1, t2, t3, t4, t5, t6⟩, b5, b6, b7, b8, b9⟩ := hiv2.1
    have e1 : S'.v_Tp_used = S1.v_Tp_used := congrArg (fun x => x.2.2.2.2.1) a2
    have e2 : S'.w_Tp_bytes = S1.w_Tp_bytes := congrArg (fun x => x.2.2.1) a2
    have e3 : S'.w_Tp_ready = S1.w_Tp_ready := congrArg (fun x => x.2.2.2.1) a2
    have e4 : S'.v_Vt_fails = S1.v_Vt_fails := congrArg (fun x => x.1.2.2.1) a2
    refine ⟨⟨b1, ⟨b2.1, a3.2.2.1, a3.2.2.2.1⟩, ⟨b3.1, a3.2.1⟩, ⟨k, t1, e1.trans t2, t3, fun j hj => ?_, fun j hj => ?_, fun j hj => ?_⟩, ⟨0, by omega, e4.trans hf.2, h2.2, fun j hj => by omega⟩, ⟨rfl, rfl, rfl⟩, b7.2, b9⟩, a3.1, hiv2.2.resolve_left (by rw [hlab.2.1, hR.1]; decide), hby, fks, z, A, H, B, P, g0, r, to, gl, hh, T1, T2, hrp, y8, y4, a4, y9, hlab.2.2⟩
    · show S'.w_Tp_bytes j = _
      rw [e2]; exact t4 j hj
    · show S'.w_Tp_ready j = _
      rw [e3]; exact t5 j hj
    · show fits .byte (.int (S'.w_Tp_ready j)) = true
      rw [e3]; exact t6 j hj
  · subst e
    rw [if_neg (by decide)] at a4
    rw [if_neg (by decide)]
    exact ⟨_, _, _, _, E', rfl, rfl, h1.1, htp, hby, Or.inl (ivA_ran hb (Or.inr hR) ⟨hf.2, h1.2.2⟩ a2 a3 ho a4)⟩
