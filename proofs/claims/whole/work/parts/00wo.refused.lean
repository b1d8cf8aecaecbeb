/-! A run, with all its fails, where the plan is refused. -/
abbrev rR (K N m an : Nat) (D : Nat → Int32) (a : Int32) (T : MS) : Prop := (hdOk N D ∧ (256 ≤ N ∧ N ≤ 1024) ∧ sec27 D ∧ capOk N D m ∧ m ≤ 4000) ∧ (1 ≤ an ∧ an ≤ 15) ∧ (trE N D = .error an ∨ ∃ fks z hh T1, trE N D = .ok (fks, z) ∧ (∃ E0 G0 S1, tv N m D E0 fks z hh G0 S1 T ∧ agH D E0) ∧ T.v_parent 0 = 0 ∧ f_Mo_refusal K T a = some (nI an, T1))
theorem cl_turnR {K N t m d an : Nat} {D : Nat → Int32} {E : Nat → Int32} {G : CG} {S : CS} {T : MS} {p : Option Nat} {a : Int32} (hK : 20000 ≤ K) (h : rR K N m an D a T) (hd : d = 0 ∨ d = 1) (hE : dU N D E) (hS : cK N t (N / 2) E p G S) : ∃ G' S', f_Tu_turn K G S (nI d) a = some (nI (if d = 0 then an else 0), G', S') ∧ coR S' = coR S ∧ cK N t (N / 2) E p G' S' := by
  obtain ⟨⟨ho, ⟨hN1, hN⟩, h27, hcp, hm⟩, ⟨han1, han2⟩, hor⟩ := h
  have hS0 := hS
  obtain ⟨⟨hG, hlim⟩, hb0, hs, hbl, hpw, hb⟩ := hS
  rcases hd with e | e
  rotate_left
  · subst e
    exact ⟨G, S, cl_backU (K := K) (S := S) (G := G) (a := a) hN1 hN ho h27 hE hG.1 hb0, rfl, hS0⟩
  subst e
  have hff := hd_facts ho hN
  obtain ⟨n1, n2⟩ := qC_notThere (K := K) (S := S) hG.1 hb0 hN1 hN (fun q q1 q2 => by rw [hE q (by omega) (Or.inl (by omega))]; exact h27 q (by omega))
  have hag : agA N 0 D E (fun _ => 0) := agF_A (ran := 1) hN1 hN (Or.inr ⟨rfl, ho, hE⟩)
  obtain ⟨r0, G2, S2, c1, c2, c3, c4, c5, c5e⟩ := qC_scan (K := K) (mv := 0) (S := S) (gl := fun _ => 0) (D := D) hK hN1 hN hcp hm hG hlim hb0 hs hag (Or.inl rfl) (fun e => by omega) (fun c => by omega)
  have c1' : f_Rd_scan K G S 0 = some (nI r0, G2, S2) := c1
  have co2 : coR S2 = coR S := by
    unfold coR
    rw [coK_w_Vt_failAsks c2, coK_w_Vt_failWrites c2, coK_v_Vt_fails c2, coK_v_Vt_here c2, coK_v_Vt_hasRun c2, coK_v_Vt_stale c2, coK_v_Vt_lastFault c2, coK_v_Dk_sectors c2, coK_w_Tp_bytes c2, coK_w_Tp_ready c2, coK_v_Tp_used c2, coK_v_Pl_blocks c2]
  have k2 : cK N t (N / 2) E p G2 S2 := ⟨⟨c3, c4⟩, (coK_w_Dk_bytes c2).trans hb0, (coK_v_Dk_sectors c2).trans hs, (coK_v_Pl_blocks c2).trans hbl, (coK_v_Dk_power c2).trans hpw, ⟨fun q => by rw [coK_w_Dk_bytes c2]; exact hb.1 q, fun q => by rw [coK_w_Tu_block c2]; exact hb.2 q⟩⟩
  have hst : f_Tu_turn K G S (nI 0) a = f_Tu_turn_46 K a (nI r0) G2 S2 := by
    unfold f_Tu_turn
    rw [if_neg (show ¬ nI 0 = 1 by decide), n1, q_c, if_pos rfl, n2, q_c, if_pos rfl, c1']
    rfl
  rw [hst, if_pos rfl]
  unfold f_Tu_turn_46
  rcases hor with er | ⟨fks, z, hh, T1, etr, ⟨E0, G0, S1, v, hv0⟩, hT0, hT⟩
  · have hr := (c5e an er).1
    refine ⟨G2, S2, ?_, co2, k2⟩
    rw [hr]
    unfold f_Pl_refusal
    rw [if_neg (nI_ne0 (by omega) (by omega)), q_c, if_neg (nI_ne0 (by omega) (by omega))]
  · obtain ⟨c6, c7, c8, -⟩ := c5 fks z etr
    obtain ⟨ans, S3, T3, x1, x2, x3, -, -, -, -, -, ⟨x4, x5, x6, x7⟩, -⟩ := qB_refX (K := K) hK hN1 hN v hv0 c7 ⟨t, c8⟩ (hag.2 ho).1 k2.2.2.2.1 etr hT0 a
    rw [hT] at x3
    have ha0 : nI an = nI ans := congrArg (fun o => o.1) (Option.some.inj x3)
    refine ⟨G2, S3, ?_, x4.trans co2, ⟨⟨c3, c4⟩, x5.trans k2.2.1, (congrArg (fun x => x.2.1) x4).trans k2.2.2.1, (congrArg (fun x => x.2.2.2.2.2) x4).trans k2.2.2.2.1, x6.trans k2.2.2.2.2.1, ⟨fun q => by rw [x5]; exact k2.2.2.2.2.2.1 q, fun q => by rw [x7]; exact k2.2.2.2.2.2.2 q⟩⟩⟩
    rw [c6, show nI 0 = (0 : Int32) from rfl, x2, q_c, ← ha0, if_neg (nI_ne0 han1 (Nat.lt_of_le_of_lt han2 (by decide)))]
theorem cl_loopR {K N t m d f an : Nat} {D E : Nat → Int32} {S0 : CS} {T : MS} {a : Int32} (hK : 20000 ≤ K) (h : rR K N m an D a T) (hd : d = 0 ∨ d = 1) (hf : f ≤ 16) (hw : ∀ j, j < f → (S0.w_Vt_failAsks j = nI 0 ∨ S0.w_Vt_failAsks j = nI 1) ∧ ∃ w, w < 2 ^ 31 ∧ S0.w_Vt_failWrites j = nI w) (hE : dU N D E) : ∀ (c i w : Nat) (G : CG) (S : CS), i + c = f → c < w → coR S = coR S0 → cQ N t (N / 2) E G S → ∃ G' S1 p', f_Vt_run_74 K w (nI d) (nI f) a (nI i) G S = some (.ok (nI (if d = 0 then an else 0)), G', ((S1.u_v_Vt_hasRun 1).u_v_Vt_stale 1).u_v_Vt_here 0) ∧ coR S1 = coR S0 ∧ cK N t (N / 2) E p' G' S1 := by
  intro c
  induction c with
  | zero =>
    intro i w G S e1 e2 hco hS
    obtain ⟨w, rfl⟩ : ∃ m, w = m + 1 := ⟨w - 1, by omega⟩
    obtain rfl : i = f := by omega
    obtain ⟨G', S1, a1, a2, a3⟩ := cl_turnR (K := K) (S := S.u_v_Dk_power (-1)) (G := G) (p := none) hK h hd hE ⟨hS.1, hS.2.1, hS.2.2.1, hS.2.2.2.1, rfl, hS.2.2.2.2⟩
    refine ⟨G', S1, none, ?_, a2.trans hco, a3⟩
    rw [f_Vt_run_74, if_pos (nI_le (Nat.le_refl _) (by omega))]
    unfold f_Vt_run_124
    show lf_n (f_Tu_turn K G (S.u_v_Dk_power (-1)) (nI d) a) _ = _
    rw [a1]
    rfl
  | succ c ih =>
    intro i w G S e1 e2 hco hS
    obtain ⟨w, rfl⟩ : ∃ m, w = m + 1 := ⟨w - 1, by omega⟩
    obtain ⟨h1, v, h2, h3⟩ := hw i (by omega)
    have hask : ∃ d', (d' = 0 ∨ d' = 1) ∧ S.w_Vt_failAsks i = nI d' := by
      rw [show S.w_Vt_failAsks = S0.w_Vt_failAsks from congrArg (fun x => x.1.1) hco]
      rcases h1 with y | y
      · exact ⟨0, Or.inl rfl, y⟩
      · exact ⟨1, Or.inr rfl, y⟩
    obtain ⟨d', hd', ha0⟩ := hask
    have hwr : S.w_Vt_failWrites i = nI v := by
      rw [show S.w_Vt_failWrites = S0.w_Vt_failWrites from congrArg (fun x => x.1.2.1) hco]
      exact h3
    obtain ⟨G', S1, a1, a2, a3⟩ := cl_turnR (K := K) (S := S.u_v_Dk_power (nI v)) (G := G) (p := some v) (d := d') hK h hd' hE ⟨hS.1, hS.2.1, hS.2.2.1, hS.2.2.2.1, rfl, hS.2.2.2.2⟩
    obtain ⟨G2, S2, p2, b1, b2, b3⟩ := ih (i + 1) w G' S1 (by omega) (by omega) (a2.trans hco) ⟨a3.1, a3.2.1, a3.2.2.1, a3.2.2.2.1, a3.2.2.2.2.2⟩
    refine ⟨G2, S2, p2, ?_, b2, b3⟩
    have hwr2 : S.w_Vt_failWrites (nI i).toNatClampNeg = nI v := by rw [nI_clamp (by omega)]; exact hwr
    have hask2 : S.w_Vt_failAsks (nI i).toNatClampNeg = nI d' := by rw [nI_clamp (by omega)]; exact ha0
    rw [← b1, f_Vt_run_74, if_neg (nI_ge (by omega) (by omega)), show (16 : Int32) = nI 16 from rfl, if_neg (nI_ge (by omega) (by omega)), q_g (q_in (by omega) (by decide)), hwr2]
    show lf_g _ (lf_n (f_Tu_turn K G (S.u_v_Dk_power (nI v)) (S.w_Vt_failAsks (nI i).toNatClampNeg) a) _) = _
    rw [q_g (q_in (by omega) (by decide)), hask2, a1]
    show f_Vt_run_117 K (f_Vt_run_74 K w) (nI d) (nI f) a (nI i) (nI (if d' = 0 then an else 0)) G' S1 = _
    unfold f_Vt_run_117
    rw [nI_1, q_l]
