/-! What holds behind a run that left a volume of chained clusters. -/
theorem ivA_ran {N t m : Nat} {D E E' : Nat → Int32} {G' : CG} {S S' : CS} {T : MS} {p : Option Nat} (hb : baA N m D E S T) (hR : T.v_looked = 0 ∨ lkR N D T) (hf : S.v_Vt_fails = 0 ∧ T.v_told = 0) (hco : coR S' = coR S) (hk0 : cK N t (N / 2) E' p G' S') (ho : hdOk N D) (hU : dU N D E') : ivA N t m D E' G' (((S'.u_v_Vt_hasRun 1).u_v_Vt_stale 1).u_v_Vt_here 0) ((T.u_v_ran 1).u_v_here 0) := by
  obtain ⟨b1, b2, b3, ⟨k, t1, t2, t3, t4, t5, t6⟩, b5, b6, b7, b8, b9⟩ := hb
  have e1 : S'.v_Tp_used = S.v_Tp_used := congrArg (fun x => x.2.2.2.2.1) hco
  have e2 : S'.w_Tp_bytes = S.w_Tp_bytes := congrArg (fun x => x.2.2.1) hco
  have e3 : S'.w_Tp_ready = S.w_Tp_ready := congrArg (fun x => x.2.2.2.1) hco
  have e4 : S'.v_Vt_fails = S.v_Vt_fails := congrArg (fun x => x.1.2.2.1) hco
  refine ⟨⟨b1, ⟨b2.1, hk0.2.2.1, hk0.2.2.2.1⟩, ⟨b3.1, hk0.2.1⟩, ⟨k, t1, e1.trans t2, t3, fun j hj => ?_, fun j hj => ?_, fun j hj => ?_⟩, ⟨0, by omega, e4.trans hf.1, hf.2, fun j hj => by omega⟩, ⟨b6.1, rfl, Or.inr rfl⟩, ⟨Or.inr ⟨rfl, ho, hU⟩, b7.2⟩, fun fks z e => ⟨0, ?_, Or.inl rfl, rfl, rfl⟩, b9⟩, hk0.1, hR, Or.inl rfl⟩
  · show S'.w_Tp_bytes j = _
    rw [e2]; exact t4 j hj
  · show S'.w_Tp_ready j = _
    rw [e3]; exact t5 j hj
  · show fits .byte (.int (S'.w_Tp_ready j)) = true
    rw [e3]; exact t6 j hj
  · obtain ⟨h, h1, -⟩ := b8 fks z e
    omega
theorem agF_dU {N : Nat} {ran : Int32} {D E : Nat → Int32} (h : agF N ran D E) : dU N D E := fun p hp hs => by
  rcases h with y | ⟨-, -, y⟩
  · exact y p hp
  · exact y p hp hs
theorem flt_hd {N : Nat} {D : Nat → Int32} (h : flt N D ≠ 1) : hdOk N D := by
  apply Classical.byContradiction
  intro y
  apply h
  unfold flt trE
  rw [cif_f y]
theorem flt_err {N : Nat} {D : Nat → Int32} (h : flt N D ≠ 0) : trE N D = .error (flt N D) := by
  unfold flt at *
  cases e : trE N D with
  | ok x => rw [e] at h; exact absurd rfl h
  | error x => rfl
